set_option maxRecDepth 20000 in
theorem B_P_load_0 {x2 : Int} {M : Mm} {Q : Mm → Option Mv → Prop} (hS : RefOK M) (H : Wq 2 0 0 mP_load 29 [iR 59, iR 1, iI x2, iR 5, iR 12, iI 0] [] (cI M 7 0 60 0 16) Q) : Wq 2 0 0 mP_load 0 [iR 59, iR 1, iI x2, none, none, none] [] M Q := by
  refine wq_aload_n (pc := 0) dP_load_0 rfl rfl ?_
  refine wq_getR (pc := 1) (z := 1) (b := 5) dP_load_1 fO_P_21 sh_1 rfl rfl (rf_1_1 hS) ?_
  refine wq_astore_n (pc := 4) (lo' := [iR 59, iR 1, iI x2, iR 5, none, none]) dP_load_4 rfl rfl rfl ?_
  refine wq_aload_n (pc := 5) dP_load_5 rfl rfl ?_
  refine wq_getR (pc := 6) (z := 2) (b := 12) dP_load_6 fO_P_27 sh_1 rfl rfl (rf_1_2 hS) ?_
  refine wq_astore (pc := 9) (lo' := [iR 59, iR 1, iI x2, iR 5, iR 12, none]) dP_load_9 rfl rfl ?_
  refine wq_aload_n (pc := 11) dP_load_11 rfl rfl ?_
  refine wq_getR (pc := 12) (z := 1) (b := 7) dP_load_12 fO_P_31 sh_5 rfl rfl (rf_5_1 hS) ?_
  refine wq_iconst (pc := 15) dP_load_15 rfl ?_
  refine wq_aload_n (pc := 16) dP_load_16 rfl rfl ?_
  refine wq_getR (pc := 17) (z := 0) (b := 60) dP_load_17 fO_P_9 sh_59 rfl rfl (rf_59_0 hS) ?_
  refine wq_iconst (pc := 20) dP_load_20 rfl ?_
  refine wq_bipush (pc := 21) dP_load_21 rfl ?_
  refine wq_cpI (pc := 23) dP_load_23 aC_P_36 (Or.inl ⟨sh_7, sh_60⟩) (by decide) (by decide) (by decide) (by decide) (by decide) (by decide) (by decide) rfl ?_
  refine wq_iconst (pc := 26) dP_load_26 rfl ?_
  refine wq_istore (pc := 27) (lo' := [iR 59, iR 1, iI x2, iR 5, iR 12, iI 0]) dP_load_27 rfl rfl ?_
  exact H

set_option maxRecDepth 20000 in
theorem B_P_load_29 {x2 x5 : Int} {M : Mm} {Q : Mm → Option Mv → Prop} (hS : RefOK M) (H : ((gI M 12 7 ≤ x5 → Q M none) ∧ (¬ gI M 12 7 ≤ x5 → ((0 ≤ x2 ∧ x2 < 2147483648 ∧ 0 ≤ x5 ∧ x5 < 32) ∧ ((hb x2 x5 = true → (((0 ≤ x5 ∧ x5 < 20) ∧ (0 ≤ gI M 13 x5 ∧ gI M 13 x5 < 16) ∧ (-2147483648 ≤ gI M 60 (gI M 13 x5) + gI M 16 x5 ∧ gI M 60 (gI M 13 x5) + gI M 16 x5 < 2147483648) ∧ (-2147483648 ≤ x5 + 1 ∧ x5 + 1 < 2147483648)) ∧ Wq 2 0 0 mP_load 29 [iR 59, iR 1, iI x2, iR 5, iR 12, iI (x5 + 1)] [] (sI M 60 (gI M 13 x5) (gI M 60 (gI M 13 x5) + gI M 16 x5)) Q)) ∧ (¬ (hb x2 x5 = true) → ((-2147483648 ≤ x5 + 1 ∧ x5 + 1 < 2147483648) ∧ Wq 2 0 0 mP_load 29 [iR 59, iR 1, iI x2, iR 5, iR 12, iI (x5 + 1)] [] M Q))))))) : Wq 2 0 0 mP_load 29 [iR 59, iR 1, iI x2, iR 5, iR 12, iI x5] [] M Q := by
  refine wq_iload (pc := 29) dP_load_29 rfl ?_
  refine wq_aload (pc := 31) dP_load_31 rfl ?_
  refine wq_getI (pc := 33) (z := 7) dP_load_33 fO_P_42 sh_12 rfl rfl ?_
  refine wq_icmp_ge (pc := 36) (tgt := 78) dP_load_36 (by decide) (fun c1 => ?_) (fun c1 => ?_)
  · have H := H.1 c1
    refine wq_return (pc := 78) dP_load_78 trivial ?_
    exact H
  · have H := H.2 c1
    obtain ⟨s2, H⟩ := H
    refine wq_iload_n (pc := 39) dP_load_39 rfl rfl ?_
    refine wq_iload (pc := 40) dP_load_40 rfl ?_
    refine wq_callS (d' := 1) (pc := 42) (as := [vI x2, vI x5]) (rest := []) (lo' := [iI x2, iI x5]) dP_load_42 mO_D_holds lS_P_48 rfl rfl rfl rfl rfl rfl ?_
    refine sp_D_holds s2 (fun c3 => ?_) (fun c3 => ?_)
    · have H := H.1 c3
      show Wq 2 0 0 mP_load 45 [iR 59, iR 1, iI x2, iR 5, iR 12, iI x5] [vI 1] M _
      obtain ⟨⟨s4, s5, s6, s7⟩, H⟩ := H
      refine wq_if_eq (pc := 45) (tgt := 72) dP_load_45 (by decide) (fun q => absurd q (by decide)) (fun _ => ?_)
      refine wq_aload_n (pc := 48) dP_load_48 rfl rfl ?_
      refine wq_getR (pc := 49) (z := 0) (b := 60) dP_load_49 fO_P_9 sh_59 rfl rfl (rf_59_0 hS) ?_
      refine wq_aload (pc := 52) dP_load_52 rfl ?_
      refine wq_getR (pc := 54) (z := 0) (b := 13) dP_load_54 fO_P_52 sh_12 rfl rfl (rf_12_0 hS) ?_
      refine wq_iload (pc := 57) dP_load_57 rfl ?_
      refine wq_iald (pc := 59) dP_load_59 sh_13 s4.1 s4.2 ?_
      refine wq_dup2 (pc := 60) dP_load_60 rfl rfl ?_
      refine wq_iald (pc := 61) dP_load_61 sh_60 s5.1 s5.2 ?_
      refine wq_aload (pc := 62) dP_load_62 rfl ?_
      refine wq_getR (pc := 64) (z := 3) (b := 16) dP_load_64 fO_P_55 sh_12 rfl rfl (rf_12_3 hS) ?_
      refine wq_iload (pc := 67) dP_load_67 rfl ?_
      refine wq_iald (pc := 69) dP_load_69 sh_16 s4.1 s4.2 ?_
      refine wq_iadd (pc := 70) dP_load_70 ?_
      refine wq_re (x := (wr (gI M 60 (gI M 13 x5) + gI M 16 x5))) (y := (gI M 60 (gI M 13 x5) + gI M 16 x5)) (Eq.trans (wr_eq (by omega) (by omega)) (by omega)) ?_
      refine wq_iast (pc := 71) dP_load_71 sh_60 (by decide) s5.1 s5.2 ?_
      refine wq_iinc (pc := 72) (lo' := [iR 59, iR 1, iI x2, iR 5, iR 12, iI (x5 + 1)]) dP_load_72 rfl rfl (by rw [show wr (x5 + 1) = x5 + 1 from (Eq.trans (wr_eq (by omega) (by omega)) (by omega))]; rfl) ?_
      refine wq_goto (pc := 75) (tgt := 29) dP_load_75 (by decide) ?_
      exact H
    · have H := H.2 c3
      show Wq 2 0 0 mP_load 45 [iR 59, iR 1, iI x2, iR 5, iR 12, iI x5] [vI 0] M _
      obtain ⟨s8, H⟩ := H
      refine wq_if_eq (pc := 45) (tgt := 72) dP_load_45 (by decide) (fun _ => ?_) (fun q => absurd (by decide) q)
      refine wq_iinc (pc := 72) (lo' := [iR 59, iR 1, iI x2, iR 5, iR 12, iI (x5 + 1)]) dP_load_72 rfl rfl (by rw [show wr (x5 + 1) = x5 + 1 from (Eq.trans (wr_eq (by omega) (by omega)) (by omega))]; rfl) ?_
      refine wq_goto (pc := 75) (tgt := 29) dP_load_75 (by decide) ?_
      exact H
set_option maxRecDepth 20000 in
theorem B_P_run_0 {M : Mm} {Q : Mm → Option Mv → Prop} (hS : RefOK M) (H : Wq 3 0 0 mP_run 10 [iR 59, iR 1, iR 5, iI 0, iI 0, none] [] M Q) : Wq 3 0 0 mP_run 0 [iR 59, iR 1, none, none, none, none] [] M Q := by
  refine wq_aload_n (pc := 0) dP_run_0 rfl rfl ?_
  refine wq_getR (pc := 1) (z := 1) (b := 5) dP_run_1 fO_P_21 sh_1 rfl rfl (rf_1_1 hS) ?_
  refine wq_astore_n (pc := 4) (lo' := [iR 59, iR 1, iR 5, none, none, none]) dP_run_4 rfl rfl rfl ?_
  refine wq_iconst (pc := 5) dP_run_5 rfl ?_
  refine wq_istore_n (pc := 6) (lo' := [iR 59, iR 1, iR 5, iI 0, none, none]) dP_run_6 rfl rfl rfl ?_
  refine wq_iconst (pc := 7) dP_run_7 rfl ?_
  refine wq_istore (pc := 8) (lo' := [iR 59, iR 1, iR 5, iI 0, iI 0, none]) dP_run_8 rfl rfl ?_
  exact H

set_option maxRecDepth 20000 in
theorem B_P_run_10 {x3 x4 : Int} {M : Mm} {Q : Mm → Option Mv → Prop} (hS : RefOK M) (H : ((gI M 5 6 ≤ x4 → Q M (some (vI x3))) ∧ (¬ gI M 5 6 ≤ x4 → ((0 ≤ x4 ∧ x4 < 16) ∧ Wq 1 0 0 mW_readyBy 0 [iR 5, iI (gI M 11 x4), iR 62, none, none, none] [] M (fun M' v => Wq 3 0 0 mP_run 44 [iR 59, iR 1, iR 5, iI x3, iI x4, iI (gI M 11 x4)] (v.toList ++ [vI (gI M 11 x4), vR 61]) M' Q))))) : Wq 3 0 0 mP_run 10 [iR 59, iR 1, iR 5, iI x3, iI x4, none] [] M Q := by
  refine wq_iload (pc := 10) dP_run_10 rfl ?_
  refine wq_aload_n (pc := 12) dP_run_12 rfl rfl ?_
  refine wq_getI (pc := 13) (z := 6) dP_run_13 fO_P_58 sh_5 rfl rfl ?_
  refine wq_icmp_ge (pc := 16) (tgt := 98) dP_run_16 (by decide) (fun c1 => ?_) (fun c1 => ?_)
  · have H := H.1 c1
    refine wq_iload_n (pc := 98) dP_run_98 rfl rfl ?_
    refine wq_ireturn (pc := 99) dP_run_99 trivial ?_
    exact H
  · have H := H.2 c1
    obtain ⟨s2, H⟩ := H
    refine wq_aload_n (pc := 19) dP_run_19 rfl rfl ?_
    refine wq_getR (pc := 20) (z := 5) (b := 11) dP_run_20 fO_P_59 sh_5 rfl rfl (rf_5_5 hS) ?_
    refine wq_iload (pc := 23) dP_run_23 rfl ?_
    refine wq_iald (pc := 25) dP_run_25 sh_11 s2.1 s2.2 ?_
    refine wq_istore (pc := 26) (lo' := [iR 59, iR 1, iR 5, iI x3, iI x4, iI (gI M 11 x4)]) dP_run_26 rfl rfl ?_
    refine wq_aload_n (pc := 28) dP_run_28 rfl rfl ?_
    refine wq_getR (pc := 29) (z := 1) (b := 61) dP_run_29 fO_P_15 sh_59 rfl rfl (rf_59_1 hS) ?_
    refine wq_iload (pc := 32) dP_run_32 rfl ?_
    refine wq_aload_n (pc := 34) dP_run_34 rfl rfl ?_
    refine wq_iload (pc := 35) dP_run_35 rfl ?_
    refine wq_aload_n (pc := 37) dP_run_37 rfl rfl ?_
    refine wq_getR (pc := 38) (z := 2) (b := 62) dP_run_38 fO_P_18 sh_59 rfl rfl (rf_59_2 hS) ?_
    refine wq_callV (d' := 1) (pc := 41) (as := [vI (gI M 11 x4), vR 62]) (rest := [vI (gI M 11 x4), vR 61]) (lo' := [iR 5, iI (gI M 11 x4), iR 62, none, none, none]) dP_run_41 mO_W_readyBy lV_P_62 sh_5 (by decide) cl_9 rfl rfl rfl rfl rfl rfl ?_
    exact H

set_option maxRecDepth 20000 in
theorem B_P_run_44 {x3 x4 x5 y0 : Int} {M : Mm} {Q : Mm → Option Mv → Prop} (hS : RefOK M) (H : ((0 ≤ x5 ∧ x5 < 16) ∧ Wq 2 0 0 mY_endOf 0 [iR 2, iI (gI M 6 x5), iI y0, iI (gI M 60 x5), none] [] (sI M 61 x5 y0) (fun M' v => Wq 3 0 0 mP_run 79 [iR 59, iR 1, iR 5, iI x3, iI x4, iI x5] (v.toList ++ [vI x5, vR 62]) M' Q))) : Wq 3 0 0 mP_run 44 [iR 59, iR 1, iR 5, iI x3, iI x4, iI x5] [vI y0, vI x5, vR 61] M Q := by
  obtain ⟨s1, H⟩ := H
  refine wq_iast (pc := 44) dP_run_44 sh_61 (by decide) s1.1 s1.2 ?_
  refine wq_aload_n (pc := 45) dP_run_45 rfl rfl ?_
  refine wq_getR (pc := 46) (z := 2) (b := 62) dP_run_46 fO_P_18 sh_59 rfl rfl (rf_59_2 hS) ?_
  refine wq_iload (pc := 49) dP_run_49 rfl ?_
  refine wq_aload_n (pc := 51) dP_run_51 rfl rfl ?_
  refine wq_getR (pc := 52) (z := 0) (b := 2) dP_run_52 fO_P_66 sh_1 rfl rfl (rf_1_0 hS) ?_
  refine wq_aload_n (pc := 55) dP_run_55 rfl rfl ?_
  refine wq_getR (pc := 56) (z := 0) (b := 6) dP_run_56 fO_P_70 sh_5 rfl rfl (rf_5_0 hS) ?_
  refine wq_iload (pc := 59) dP_run_59 rfl ?_
  refine wq_iald (pc := 61) dP_run_61 sh_6 s1.1 s1.2 ?_
  refine wq_re (x := (gI (sI M 61 x5 y0) 6 x5)) (y := (gI M 6 x5)) rfl ?_
  refine wq_aload_n (pc := 62) dP_run_62 rfl rfl ?_
  refine wq_getR (pc := 63) (z := 1) (b := 61) dP_run_63 fO_P_15 sh_59 rfl rfl (rf_59_1 hS) ?_
  refine wq_iload (pc := 66) dP_run_66 rfl ?_
  refine wq_iald (pc := 68) dP_run_68 sh_61 s1.1 s1.2 ?_
  refine wq_re (x := (gI (sI M 61 x5 y0) 61 x5)) (y := y0) gI_s ?_
  refine wq_aload_n (pc := 69) dP_run_69 rfl rfl ?_
  refine wq_getR (pc := 70) (z := 0) (b := 60) dP_run_70 fO_P_9 sh_59 rfl rfl (rf_59_0 hS) ?_
  refine wq_iload (pc := 73) dP_run_73 rfl ?_
  refine wq_iald (pc := 75) dP_run_75 sh_60 s1.1 s1.2 ?_
  refine wq_re (x := (gI (sI M 61 x5 y0) 60 x5)) (y := (gI M 60 x5)) rfl ?_
  refine wq_callV (d' := 2) (pc := 76) (as := [vI (gI M 6 x5), vI y0, vI (gI M 60 x5)]) (rest := [vI x5, vR 62]) (lo' := [iR 2, iI (gI M 6 x5), iI y0, iI (gI M 60 x5), none]) dP_run_76 mO_Y_endOf lV_P_73 sh_2 (by decide) cl_1 rfl rfl rfl rfl rfl rfl ?_
  exact H

set_option maxRecDepth 20000 in
theorem B_P_run_79 {x3 x4 x5 y0 : Int} {M : Mm} {Q : Mm → Option Mv → Prop} (hS : RefOK M) (H : (((0 ≤ x5 ∧ x5 < 16) ∧ (-2147483648 ≤ x4 + 1 ∧ x4 + 1 < 2147483648)) ∧ Wq 3 0 0 mP_run 10 [iR 59, iR 1, iR 5, iI (max x3 y0), iI (x4 + 1), none] [] (sI M 62 x5 y0) Q)) : Wq 3 0 0 mP_run 79 [iR 59, iR 1, iR 5, iI x3, iI x4, iI x5] [vI y0, vI x5, vR 62] M Q := by
  obtain ⟨⟨s1, s2⟩, H⟩ := H
  refine wq_iast (pc := 79) dP_run_79 sh_62 (by decide) s1.1 s1.2 ?_
  refine wq_iload_n (pc := 80) dP_run_80 rfl rfl ?_
  refine wq_aload_n (pc := 81) dP_run_81 rfl rfl ?_
  refine wq_getR (pc := 82) (z := 2) (b := 62) dP_run_82 fO_P_18 sh_59 rfl rfl (rf_59_2 hS) ?_
  refine wq_iload (pc := 85) dP_run_85 rfl ?_
  refine wq_iald (pc := 87) dP_run_87 sh_62 s1.1 s1.2 ?_
  refine wq_re (x := (gI (sI M 62 x5 y0) 62 x5)) (y := y0) gI_s ?_
  refine wq_max (pc := 88) dP_run_88 xO_P_79 rfl ?_
  refine wq_istore_n (pc := 91) (lo' := [iR 59, iR 1, iR 5, iI (max x3 y0), iI x4, iI x5]) dP_run_91 rfl rfl rfl ?_
  refine wq_iinc (pc := 92) (lo' := [iR 59, iR 1, iR 5, iI (max x3 y0), iI (x4 + 1), iI x5]) dP_run_92 rfl rfl (by rw [show wr (x4 + 1) = x4 + 1 from (Eq.trans (wr_eq (by omega) (by omega)) (by omega))]; rfl) ?_
  refine wq_goto (pc := 95) (tgt := 10) dP_run_95 (by decide) ?_
  refine wq_drop [5] (lo' := [iR 59, iR 1, iR 5, iI (max x3 y0), iI (x4 + 1), none]) rfl ?_
  exact H
set_option maxRecDepth 20000 in
theorem B_W_readyBy_0 {x1 : Int} {M : Mm} {Q : Mm → Option Mv → Prop} (hS : RefOK M) (H : ((0 ≤ x1 ∧ x1 < 16) ∧ Wq 1 0 0 mW_readyBy 13 [iR 5, iI x1, iR 62, iI 0, iI (gI M 9 x1), iI 0] [] M Q)) : Wq 1 0 0 mW_readyBy 0 [iR 5, iI x1, iR 62, none, none, none] [] M Q := by
  obtain ⟨s1, H⟩ := H
  refine wq_iconst (pc := 0) dW_readyBy_0 rfl ?_
  refine wq_istore_n (pc := 1) (lo' := [iR 5, iI x1, iR 62, iI 0, none, none]) dW_readyBy_1 rfl rfl rfl ?_
  refine wq_aload_n (pc := 2) dW_readyBy_2 rfl rfl ?_
  refine wq_getR (pc := 3) (z := 3) (b := 9) dW_readyBy_3 fO_W_21 sh_5 rfl rfl (rf_5_3 hS) ?_
  refine wq_iload_n (pc := 6) dW_readyBy_6 rfl rfl ?_
  refine wq_iald (pc := 7) dW_readyBy_7 sh_9 s1.1 s1.2 ?_
  refine wq_istore (pc := 8) (lo' := [iR 5, iI x1, iR 62, iI 0, iI (gI M 9 x1), none]) dW_readyBy_8 rfl rfl ?_
  refine wq_iconst (pc := 10) dW_readyBy_10 rfl ?_
  refine wq_istore (pc := 11) (lo' := [iR 5, iI x1, iR 62, iI 0, iI (gI M 9 x1), iI 0]) dW_readyBy_11 rfl rfl ?_
  exact H

set_option maxRecDepth 20000 in
theorem B_W_readyBy_13 {x1 x3 x4 x5 : Int} {M : Mm} {Q : Mm → Option Mv → Prop} (hS : RefOK M) (H : ((gI M 5 6 ≤ x5 → Q M (some (vI x3))) ∧ (¬ gI M 5 6 ≤ x5 → ((x4 = 0 → Q M (some (vI x3))) ∧ (¬ x4 = 0 → ((bAnd x4 1 = 0 → ((-2147483648 ≤ x5 + 1 ∧ x5 + 1 < 2147483648) ∧ Wq 1 0 0 mW_readyBy 13 [iR 5, iI x1, iR 62, iI x3, iI (bShr x4 1), iI (x5 + 1)] [] M Q)) ∧ (¬ bAnd x4 1 = 0 → (((0 ≤ x5 ∧ x5 < 16) ∧ (0 ≤ x5 * 16 + x1 ∧ x5 * 16 + x1 < 256) ∧ (-2147483648 ≤ gI M 62 x5 + gI M 10 (x5 * 16 + x1) ∧ gI M 62 x5 + gI M 10 (x5 * 16 + x1) < 2147483648) ∧ (-2147483648 ≤ x5 + 1 ∧ x5 + 1 < 2147483648)) ∧ Wq 1 0 0 mW_readyBy 13 [iR 5, iI x1, iR 62, iI (max x3 (gI M 62 x5 + gI M 10 (x5 * 16 + x1))), iI (bShr x4 1), iI (x5 + 1)] [] M Q)))))))) : Wq 1 0 0 mW_readyBy 13 [iR 5, iI x1, iR 62, iI x3, iI x4, iI x5] [] M Q := by
  refine wq_iload (pc := 13) dW_readyBy_13 rfl ?_
  refine wq_aload_n (pc := 15) dW_readyBy_15 rfl rfl ?_
  refine wq_getI (pc := 16) (z := 6) dW_readyBy_16 fO_W_30 sh_5 rfl rfl ?_
  refine wq_icmp_ge (pc := 19) (tgt := 68) dW_readyBy_19 (by decide) (fun c1 => ?_) (fun c1 => ?_)
  · have H := H.1 c1
    refine wq_iload_n (pc := 68) dW_readyBy_68 rfl rfl ?_
    refine wq_ireturn (pc := 69) dW_readyBy_69 trivial ?_
    exact H
  · have H := H.2 c1
    refine wq_iload (pc := 22) dW_readyBy_22 rfl ?_
    refine wq_if_eq (pc := 24) (tgt := 68) dW_readyBy_24 (by decide) (fun c2 => ?_) (fun c2 => ?_)
    · have H := H.1 c2
      refine wq_iload_n (pc := 68) dW_readyBy_68 rfl rfl ?_
      refine wq_ireturn (pc := 69) dW_readyBy_69 trivial ?_
      exact H
    · have H := H.2 c2
      refine wq_iload (pc := 27) dW_readyBy_27 rfl ?_
      refine wq_iconst (pc := 29) dW_readyBy_29 rfl ?_
      refine wq_iand (pc := 30) dW_readyBy_30 ?_
      refine wq_if_eq (pc := 31) (tgt := 56) dW_readyBy_31 (by decide) (fun c3 => ?_) (fun c3 => ?_)
      · have H := H.1 c3
        obtain ⟨s4, H⟩ := H
        refine wq_iload (pc := 56) dW_readyBy_56 rfl ?_
        refine wq_iconst (pc := 58) dW_readyBy_58 rfl ?_
        refine wq_ishr (pc := 59) dW_readyBy_59 ?_
        refine wq_istore (pc := 60) (lo' := [iR 5, iI x1, iR 62, iI x3, iI (bShr x4 1), iI x5]) dW_readyBy_60 rfl rfl ?_
        refine wq_iinc (pc := 62) (lo' := [iR 5, iI x1, iR 62, iI x3, iI (bShr x4 1), iI (x5 + 1)]) dW_readyBy_62 rfl rfl (by rw [show wr (x5 + 1) = x5 + 1 from (Eq.trans (wr_eq (by omega) (by omega)) (by omega))]; rfl) ?_
        refine wq_goto (pc := 65) (tgt := 13) dW_readyBy_65 (by decide) ?_
        exact H
      · have H := H.2 c3
        obtain ⟨⟨s5, s6, s7, s8⟩, H⟩ := H
        refine wq_iload_n (pc := 34) dW_readyBy_34 rfl rfl ?_
        refine wq_aload_n (pc := 35) dW_readyBy_35 rfl rfl ?_
        refine wq_iload (pc := 36) dW_readyBy_36 rfl ?_
        refine wq_iald (pc := 38) dW_readyBy_38 sh_62 s5.1 s5.2 ?_
        refine wq_aload_n (pc := 39) dW_readyBy_39 rfl rfl ?_
        refine wq_getR (pc := 40) (z := 4) (b := 10) dW_readyBy_40 fO_W_24 sh_5 rfl rfl (rf_5_4 hS) ?_
        refine wq_iload (pc := 43) dW_readyBy_43 rfl ?_
        refine wq_bipush (pc := 45) dW_readyBy_45 rfl ?_
        refine wq_imul (pc := 47) dW_readyBy_47 ?_
        refine wq_iload_n (pc := 48) dW_readyBy_48 rfl rfl ?_
        refine wq_iadd (pc := 49) dW_readyBy_49 ?_
        refine wq_re (x := (wr (wr (x5 * 16) + x1))) (y := (x5 * 16 + x1)) (by (try simp only [wr_al, wr_ar, wr_sl, wr_sr, wr_ml, wr_mr, wr_nn, wr_ww]); exact Eq.trans (wr_eq (by omega) (by omega)) (by omega)) ?_
        refine wq_iald (pc := 50) dW_readyBy_50 sh_10 s6.1 s6.2 ?_
        refine wq_iadd (pc := 51) dW_readyBy_51 ?_
        refine wq_re (x := (wr (gI M 62 x5 + gI M 10 (x5 * 16 + x1)))) (y := (gI M 62 x5 + gI M 10 (x5 * 16 + x1))) (Eq.trans (wr_eq (by omega) (by omega)) (by omega)) ?_
        refine wq_max (pc := 52) dW_readyBy_52 xO_W_50 rfl ?_
        refine wq_istore_n (pc := 55) (lo' := [iR 5, iI x1, iR 62, iI (max x3 (gI M 62 x5 + gI M 10 (x5 * 16 + x1))), iI x4, iI x5]) dW_readyBy_55 rfl rfl rfl ?_
        refine wq_iload (pc := 56) dW_readyBy_56 rfl ?_
        refine wq_iconst (pc := 58) dW_readyBy_58 rfl ?_
        refine wq_ishr (pc := 59) dW_readyBy_59 ?_
        refine wq_istore (pc := 60) (lo' := [iR 5, iI x1, iR 62, iI (max x3 (gI M 62 x5 + gI M 10 (x5 * 16 + x1))), iI (bShr x4 1), iI x5]) dW_readyBy_60 rfl rfl ?_
        refine wq_iinc (pc := 62) (lo' := [iR 5, iI x1, iR 62, iI (max x3 (gI M 62 x5 + gI M 10 (x5 * 16 + x1))), iI (bShr x4 1), iI (x5 + 1)]) dW_readyBy_62 rfl rfl (by rw [show wr (x5 + 1) = x5 + 1 from (Eq.trans (wr_eq (by omega) (by omega)) (by omega))]; rfl) ?_
        refine wq_goto (pc := 65) (tgt := 13) dW_readyBy_65 (by decide) ?_
        exact H
set_option maxRecDepth 20000 in
theorem B_P_lastWork_0 {M : Mm} {Q : Mm → Option Mv → Prop} (H : ((gI M 5 6 ≤ 0 → Wq 1 0 0 mP_lastWork 15 [iR 59, iR 5, iI ((-1)), iI 1] [] M Q) ∧ (¬ gI M 5 6 ≤ 0 → Wq 1 0 0 mP_lastWork 15 [iR 59, iR 5, iI 0, iI 1] [] M Q))) : Wq 1 0 0 mP_lastWork 0 [iR 59, iR 5, none, none] [] M Q := by
  refine wq_aload_n (pc := 0) dP_lastWork_0 rfl rfl ?_
  refine wq_getI (pc := 1) (z := 6) dP_lastWork_1 fO_P_58 sh_5 rfl rfl ?_
  refine wq_if_le (pc := 4) (tgt := 11) dP_lastWork_4 (by decide) (fun c1 => ?_) (fun c1 => ?_)
  · have H := H.1 c1
    refine wq_iconst (pc := 11) dP_lastWork_11 rfl ?_
    refine wq_istore_n (pc := 12) (lo' := [iR 59, iR 5, iI ((-1)), none]) dP_lastWork_12 rfl rfl rfl ?_
    refine wq_iconst (pc := 13) dP_lastWork_13 rfl ?_
    refine wq_istore_n (pc := 14) (lo' := [iR 59, iR 5, iI ((-1)), iI 1]) dP_lastWork_14 rfl rfl rfl ?_
    exact H
  · have H := H.2 c1
    refine wq_iconst (pc := 7) dP_lastWork_7 rfl ?_
    refine wq_goto (pc := 8) (tgt := 12) dP_lastWork_8 (by decide) ?_
    refine wq_istore_n (pc := 12) (lo' := [iR 59, iR 5, iI 0, none]) dP_lastWork_12 rfl rfl rfl ?_
    refine wq_iconst (pc := 13) dP_lastWork_13 rfl ?_
    refine wq_istore_n (pc := 14) (lo' := [iR 59, iR 5, iI 0, iI 1]) dP_lastWork_14 rfl rfl rfl ?_
    exact H

set_option maxRecDepth 20000 in
theorem B_P_lastWork_15 {x2 x3 : Int} {M : Mm} {Q : Mm → Option Mv → Prop} (hS : RefOK M) (H : ((gI M 5 6 ≤ x3 → Q M (some (vI x2))) ∧ (¬ gI M 5 6 ≤ x3 → (((0 ≤ x3 ∧ x3 < 16) ∧ (0 ≤ x2 ∧ x2 < 16)) ∧ ((gI M 62 x3 ≤ gI M 62 x2 → ((-2147483648 ≤ x3 + 1 ∧ x3 + 1 < 2147483648) ∧ Wq 1 0 0 mP_lastWork 15 [iR 59, iR 5, iI x2, iI (x3 + 1)] [] M Q)) ∧ (¬ gI M 62 x3 ≤ gI M 62 x2 → ((-2147483648 ≤ x3 + 1 ∧ x3 + 1 < 2147483648) ∧ Wq 1 0 0 mP_lastWork 15 [iR 59, iR 5, iI x3, iI (x3 + 1)] [] M Q))))))) : Wq 1 0 0 mP_lastWork 15 [iR 59, iR 5, iI x2, iI x3] [] M Q := by
  refine wq_iload_n (pc := 15) dP_lastWork_15 rfl rfl ?_
  refine wq_aload_n (pc := 16) dP_lastWork_16 rfl rfl ?_
  refine wq_getI (pc := 17) (z := 6) dP_lastWork_17 fO_P_58 sh_5 rfl rfl ?_
  refine wq_icmp_ge (pc := 20) (tgt := 46) dP_lastWork_20 (by decide) (fun c1 => ?_) (fun c1 => ?_)
  · have H := H.1 c1
    refine wq_iload_n (pc := 46) dP_lastWork_46 rfl rfl ?_
    refine wq_ireturn (pc := 47) dP_lastWork_47 trivial ?_
    exact H
  · have H := H.2 c1
    obtain ⟨⟨s2, s3⟩, H⟩ := H
    refine wq_aload_n (pc := 23) dP_lastWork_23 rfl rfl ?_
    refine wq_getR (pc := 24) (z := 2) (b := 62) dP_lastWork_24 fO_P_18 sh_59 rfl rfl (rf_59_2 hS) ?_
    refine wq_iload_n (pc := 27) dP_lastWork_27 rfl rfl ?_
    refine wq_iald (pc := 28) dP_lastWork_28 sh_62 s2.1 s2.2 ?_
    refine wq_aload_n (pc := 29) dP_lastWork_29 rfl rfl ?_
    refine wq_getR (pc := 30) (z := 2) (b := 62) dP_lastWork_30 fO_P_18 sh_59 rfl rfl (rf_59_2 hS) ?_
    refine wq_iload_n (pc := 33) dP_lastWork_33 rfl rfl ?_
    refine wq_iald (pc := 34) dP_lastWork_34 sh_62 s3.1 s3.2 ?_
    refine wq_icmp_le (pc := 35) (tgt := 40) dP_lastWork_35 (by decide) (fun c4 => ?_) (fun c4 => ?_)
    · have H := H.1 c4
      obtain ⟨s5, H⟩ := H
      refine wq_iinc (pc := 40) (lo' := [iR 59, iR 5, iI x2, iI (x3 + 1)]) dP_lastWork_40 rfl rfl (by rw [show wr (x3 + 1) = x3 + 1 from (Eq.trans (wr_eq (by omega) (by omega)) (by omega))]; rfl) ?_
      refine wq_goto (pc := 43) (tgt := 15) dP_lastWork_43 (by decide) ?_
      exact H
    · have H := H.2 c4
      obtain ⟨s6, H⟩ := H
      refine wq_iload_n (pc := 38) dP_lastWork_38 rfl rfl ?_
      refine wq_istore_n (pc := 39) (lo' := [iR 59, iR 5, iI x3, iI x3]) dP_lastWork_39 rfl rfl rfl ?_
      refine wq_iinc (pc := 40) (lo' := [iR 59, iR 5, iI x3, iI (x3 + 1)]) dP_lastWork_40 rfl rfl (by rw [show wr (x3 + 1) = x3 + 1 from (Eq.trans (wr_eq (by omega) (by omega)) (by omega))]; rfl) ?_
      refine wq_goto (pc := 43) (tgt := 15) dP_lastWork_43 (by decide) ?_
      exact H
set_option maxRecDepth 20000 in
theorem B_P_rulerOf_0 {x1 : Int} {M : Mm} {Q : Mm → Option Mv → Prop} (H : Wq 3 0 0 mP_rulerOf 2 [iR 59, iI x1, iR 5, iI 0, none] [] M Q) : Wq 3 0 0 mP_rulerOf 0 [iR 59, iI x1, iR 5, none, none] [] M Q := by
  refine wq_iconst (pc := 0) dP_rulerOf_0 rfl ?_
  refine wq_istore_n (pc := 1) (lo' := [iR 59, iI x1, iR 5, iI 0, none]) dP_rulerOf_1 rfl rfl rfl ?_
  exact H

set_option maxRecDepth 20000 in
theorem B_P_rulerOf_2 {x1 x3 : Int} {M : Mm} {Q : Mm → Option Mv → Prop} (hS : RefOK M) (H : ((gI M 5 6 ≤ x3 → Q M (some (vI (-1)))) ∧ (¬ gI M 5 6 ≤ x3 → (((0 ≤ x3 ∧ x3 < 16) ∧ (0 ≤ wr (wr (x3 * 16) + x1) ∧ wr (wr (x3 * 16) + x1) < 256) ∧ (0 ≤ x1 ∧ x1 < 16)) ∧ ((¬ wr (gI M 62 x3 + gI M 10 (wr (wr (x3 * 16) + x1))) = gI M 61 x1 → (((0 ≤ x1 ∧ x1 < 16) ∧ (0 ≤ gI M 9 x1 ∧ gI M 9 x1 < 2147483648 ∧ 0 ≤ x3 ∧ x3 < 32)) ∧ ((hb (gI M 9 x1) x3 = true → Wq 3 0 0 mP_rulerOf 2 [iR 59, iI x1, iR 5, iI (wr (x3 + 1)), none] [] M Q) ∧ (¬ (hb (gI M 9 x1) x3 = true) → Wq 3 0 0 mP_rulerOf 2 [iR 59, iI x1, iR 5, iI (wr (x3 + 1)), none] [] M Q)))) ∧ (wr (gI M 62 x3 + gI M 10 (wr (wr (x3 * 16) + x1))) = gI M 61 x1 → (((0 ≤ x1 ∧ x1 < 16) ∧ (0 ≤ gI M 9 x1 ∧ gI M 9 x1 < 2147483648 ∧ 0 ≤ x3 ∧ x3 < 32)) ∧ ((hb (gI M 9 x1) x3 = true → Q M (some (vI x3))) ∧ (¬ (hb (gI M 9 x1) x3 = true) → Wq 3 0 0 mP_rulerOf 2 [iR 59, iI x1, iR 5, iI (wr (x3 + 1)), none] [] M Q))))))))) : Wq 3 0 0 mP_rulerOf 2 [iR 59, iI x1, iR 5, iI x3, none] [] M Q := by
  refine wq_iload_n (pc := 2) dP_rulerOf_2 rfl rfl ?_
  refine wq_aload_n (pc := 3) dP_rulerOf_3 rfl rfl ?_
  refine wq_getI (pc := 4) (z := 6) dP_rulerOf_4 fO_P_58 sh_5 rfl rfl ?_
  refine wq_icmp_ge (pc := 7) (tgt := 66) dP_rulerOf_7 (by decide) (fun c1 => ?_) (fun c1 => ?_)
  · have H := H.1 c1
    refine wq_iconst (pc := 66) dP_rulerOf_66 rfl ?_
    refine wq_ireturn (pc := 67) dP_rulerOf_67 trivial ?_
    exact H
  · have H := H.2 c1
    obtain ⟨⟨s2, s3, s4⟩, H⟩ := H
    refine wq_aload_n (pc := 10) dP_rulerOf_10 rfl rfl ?_
    refine wq_getR (pc := 11) (z := 2) (b := 62) dP_rulerOf_11 fO_P_18 sh_59 rfl rfl (rf_59_2 hS) ?_
    refine wq_iload_n (pc := 14) dP_rulerOf_14 rfl rfl ?_
    refine wq_iald (pc := 15) dP_rulerOf_15 sh_62 s2.1 s2.2 ?_
    refine wq_aload_n (pc := 16) dP_rulerOf_16 rfl rfl ?_
    refine wq_getR (pc := 17) (z := 4) (b := 10) dP_rulerOf_17 fO_P_85 sh_5 rfl rfl (rf_5_4 hS) ?_
    refine wq_iload_n (pc := 20) dP_rulerOf_20 rfl rfl ?_
    refine wq_bipush (pc := 21) dP_rulerOf_21 rfl ?_
    refine wq_imul (pc := 23) dP_rulerOf_23 ?_
    refine wq_iload_n (pc := 24) dP_rulerOf_24 rfl rfl ?_
    refine wq_iadd (pc := 25) dP_rulerOf_25 ?_
    refine wq_iald (pc := 26) dP_rulerOf_26 sh_10 s3.1 s3.2 ?_
    refine wq_iadd (pc := 27) dP_rulerOf_27 ?_
    refine wq_aload_n (pc := 28) dP_rulerOf_28 rfl rfl ?_
    refine wq_getR (pc := 29) (z := 1) (b := 61) dP_rulerOf_29 fO_P_15 sh_59 rfl rfl (rf_59_1 hS) ?_
    refine wq_iload_n (pc := 32) dP_rulerOf_32 rfl rfl ?_
    refine wq_iald (pc := 33) dP_rulerOf_33 sh_61 s4.1 s4.2 ?_
    refine wq_icmp_ne (pc := 34) (tgt := 41) dP_rulerOf_34 (by decide) (fun c5 => ?_) (fun c5 => ?_)
    · have H := H.1 c5
      obtain ⟨s6, H⟩ := H
      refine wq_iconst (pc := 41) dP_rulerOf_41 rfl ?_
      refine wq_istore (pc := 42) (lo' := [iR 59, iI x1, iR 5, iI x3, iI 0]) dP_rulerOf_42 rfl rfl ?_
      refine wq_aload_n (pc := 44) dP_rulerOf_44 rfl rfl ?_
      refine wq_iload_n (pc := 45) dP_rulerOf_45 rfl rfl ?_
      refine wq_iload_n (pc := 46) dP_rulerOf_46 rfl rfl ?_
      refine wq_callV (d' := 2) (pc := 47) (as := [vI x3, vI x1]) (rest := []) (lo' := [iR 5, iI x3, iI x1]) dP_rulerOf_47 mO_W_linked lV_P_88 sh_5 (by decide) cl_9 rfl rfl rfl rfl rfl rfl ?_
      refine sp_W_linked hS s6 (fun c7 => ?_) (fun c7 => ?_)
      · have H := H.1 c7
        show Wq 3 0 0 mP_rulerOf 50 [iR 59, iI x1, iR 5, iI x3, iI 0] [vI 1] M _
        refine wq_if_eq (pc := 50) (tgt := 60) dP_rulerOf_50 (by decide) (fun q => absurd q (by decide)) (fun _ => ?_)
        refine wq_iload (pc := 53) dP_rulerOf_53 rfl ?_
        refine wq_if_eq (pc := 55) (tgt := 60) dP_rulerOf_55 (by decide) (fun _ => ?_) (fun q => absurd (by decide) q)
        refine wq_iinc (pc := 60) (lo' := [iR 59, iI x1, iR 5, iI (wr (x3 + 1)), iI 0]) dP_rulerOf_60 rfl rfl rfl ?_
        refine wq_goto (pc := 63) (tgt := 2) dP_rulerOf_63 (by decide) ?_
        refine wq_drop [4] (lo' := [iR 59, iI x1, iR 5, iI (wr (x3 + 1)), none]) rfl ?_
        exact H
      · have H := H.2 c7
        show Wq 3 0 0 mP_rulerOf 50 [iR 59, iI x1, iR 5, iI x3, iI 0] [vI 0] M _
        refine wq_if_eq (pc := 50) (tgt := 60) dP_rulerOf_50 (by decide) (fun _ => ?_) (fun q => absurd (by decide) q)
        refine wq_iinc (pc := 60) (lo' := [iR 59, iI x1, iR 5, iI (wr (x3 + 1)), iI 0]) dP_rulerOf_60 rfl rfl rfl ?_
        refine wq_goto (pc := 63) (tgt := 2) dP_rulerOf_63 (by decide) ?_
        refine wq_drop [4] (lo' := [iR 59, iI x1, iR 5, iI (wr (x3 + 1)), none]) rfl ?_
        exact H
    · have H := H.2 c5
      obtain ⟨s8, H⟩ := H
      refine wq_iconst (pc := 37) dP_rulerOf_37 rfl ?_
      refine wq_goto (pc := 38) (tgt := 42) dP_rulerOf_38 (by decide) ?_
      refine wq_istore (pc := 42) (lo' := [iR 59, iI x1, iR 5, iI x3, iI 1]) dP_rulerOf_42 rfl rfl ?_
      refine wq_aload_n (pc := 44) dP_rulerOf_44 rfl rfl ?_
      refine wq_iload_n (pc := 45) dP_rulerOf_45 rfl rfl ?_
      refine wq_iload_n (pc := 46) dP_rulerOf_46 rfl rfl ?_
      refine wq_callV (d' := 2) (pc := 47) (as := [vI x3, vI x1]) (rest := []) (lo' := [iR 5, iI x3, iI x1]) dP_rulerOf_47 mO_W_linked lV_P_88 sh_5 (by decide) cl_9 rfl rfl rfl rfl rfl rfl ?_
      refine sp_W_linked hS s8 (fun c9 => ?_) (fun c9 => ?_)
      · have H := H.1 c9
        show Wq 3 0 0 mP_rulerOf 50 [iR 59, iI x1, iR 5, iI x3, iI 1] [vI 1] M _
        refine wq_if_eq (pc := 50) (tgt := 60) dP_rulerOf_50 (by decide) (fun q => absurd q (by decide)) (fun _ => ?_)
        refine wq_iload (pc := 53) dP_rulerOf_53 rfl ?_
        refine wq_if_eq (pc := 55) (tgt := 60) dP_rulerOf_55 (by decide) (fun q => absurd q (by decide)) (fun _ => ?_)
        refine wq_iload_n (pc := 58) dP_rulerOf_58 rfl rfl ?_
        refine wq_ireturn (pc := 59) dP_rulerOf_59 trivial ?_
        exact H
      · have H := H.2 c9
        show Wq 3 0 0 mP_rulerOf 50 [iR 59, iI x1, iR 5, iI x3, iI 1] [vI 0] M _
        refine wq_if_eq (pc := 50) (tgt := 60) dP_rulerOf_50 (by decide) (fun _ => ?_) (fun q => absurd (by decide) q)
        refine wq_iinc (pc := 60) (lo' := [iR 59, iI x1, iR 5, iI (wr (x3 + 1)), iI 1]) dP_rulerOf_60 rfl rfl rfl ?_
        refine wq_goto (pc := 63) (tgt := 2) dP_rulerOf_63 (by decide) ?_
        refine wq_drop [4] (lo' := [iR 59, iI x1, iR 5, iI (wr (x3 + 1)), none]) rfl ?_
        exact H
set_option maxRecDepth 20000 in
theorem B_D_endOf_0 {x1 : Int} {M : Mm} {Q : Mm → Option Mv → Prop} (hS : RefOK M) (H : Wq 2 0 0 mP_load 0 [iR 59, iR 1, iI x1, none, none, none] [] M (fun M' v => Wq 4 0 0 mD_endOf 12 [iR 0, iI x1] (v.toList ++ []) M' Q)) : Wq 4 0 0 mD_endOf 0 [iR 0, iI x1] [] M Q := by
  refine wq_aload_n (pc := 0) dD_endOf_0 rfl rfl ?_
  refine wq_getR (pc := 1) (z := 2) (b := 59) dD_endOf_1 fO_D_22 sh_0 rfl rfl (rf_0_2 hS) ?_
  refine wq_aload_n (pc := 4) dD_endOf_4 rfl rfl ?_
  refine wq_getR (pc := 5) (z := 0) (b := 1) dD_endOf_5 fO_D_12 sh_0 rfl rfl (rf_0_0 hS) ?_
  refine wq_iload_n (pc := 8) dD_endOf_8 rfl rfl ?_
  refine wq_callV (d' := 2) (pc := 9) (as := [vR 1, vI x1]) (rest := []) (lo' := [iR 59, iR 1, iI x1, none, none, none]) dD_endOf_9 mO_P_load lV_D_348 sh_59 (by decide) cl_4 rfl rfl rfl rfl rfl rfl ?_
  exact H

set_option maxRecDepth 20000 in
theorem B_D_endOf_12 {x1 : Int} {M : Mm} {Q : Mm → Option Mv → Prop} (hS : RefOK M) (H : Wq 3 0 0 mP_run 0 [iR 59, iR 1, none, none, none, none] [] M (fun M' v => Wq 4 0 0 mD_endOf 23 [iR 0, iI x1] (v.toList ++ []) M' Q)) : Wq 4 0 0 mD_endOf 12 [iR 0, iI x1] [] M Q := by
  refine wq_aload_n (pc := 12) dD_endOf_12 rfl rfl ?_
  refine wq_getR (pc := 13) (z := 2) (b := 59) dD_endOf_13 fO_D_22 sh_0 rfl rfl (rf_0_2 hS) ?_
  refine wq_aload_n (pc := 16) dD_endOf_16 rfl rfl ?_
  refine wq_getR (pc := 17) (z := 0) (b := 1) dD_endOf_17 fO_D_12 sh_0 rfl rfl (rf_0_0 hS) ?_
  refine wq_callV (d' := 3) (pc := 20) (as := [vR 1]) (rest := []) (lo' := [iR 59, iR 1, none, none, none, none]) dD_endOf_20 mO_P_run lV_D_352 sh_59 (by decide) cl_4 rfl rfl rfl rfl rfl rfl ?_
  exact H

set_option maxRecDepth 20000 in
theorem B_D_endOf_23 {x1 y0 : Int} {M : Mm} {Q : Mm → Option Mv → Prop} (H : Q M (some (vI y0))) : Wq 4 0 0 mD_endOf 23 [iR 0, iI x1] [vI y0] M Q := by
  refine wq_ireturn (pc := 23) dD_endOf_23 trivial ?_
  exact H
set_option maxRecDepth 20000 in
theorem B_D_floatOf_0 {x1 x2 : Int} {M : Mm} {Q : Mm → Option Mv → Prop} (hS : RefOK M) (H : Wq 2 0 0 mP_load 0 [iR 59, iR 1, iI x2, none, none, none] [] M (fun M' v => Wq 4 0 0 mD_floatOf 12 [iR 0, iI x1, iI x2, none, none, none, none, none, none] (v.toList ++ []) M' Q)) : Wq 4 0 0 mD_floatOf 0 [iR 0, iI x1, iI x2, none, none, none, none, none, none] [] M Q := by
  refine wq_aload_n (pc := 0) dD_floatOf_0 rfl rfl ?_
  refine wq_getR (pc := 1) (z := 2) (b := 59) dD_floatOf_1 fO_D_22 sh_0 rfl rfl (rf_0_2 hS) ?_
  refine wq_aload_n (pc := 4) dD_floatOf_4 rfl rfl ?_
  refine wq_getR (pc := 5) (z := 0) (b := 1) dD_floatOf_5 fO_D_12 sh_0 rfl rfl (rf_0_0 hS) ?_
  refine wq_iload_n (pc := 8) dD_floatOf_8 rfl rfl ?_
  refine wq_callV (d' := 2) (pc := 9) (as := [vR 1, vI x2]) (rest := []) (lo' := [iR 59, iR 1, iI x2, none, none, none]) dD_floatOf_9 mO_P_load lV_D_348 sh_59 (by decide) cl_4 rfl rfl rfl rfl rfl rfl ?_
  exact H

set_option maxRecDepth 20000 in
theorem B_D_floatOf_12 {x1 x2 : Int} {M : Mm} {Q : Mm → Option Mv → Prop} (hS : RefOK M) (H : ((0 ≤ x1 ∧ x1 < 16) ∧ Wq 3 0 0 mP_run 0 [iR 59, iR 1, none, none, none, none] [] M (fun M' v => Wq 4 0 0 mD_floatOf 33 [iR 0, iI x1, iI x2, iI (gI M 60 x1), none, none, none, none, none] (v.toList ++ []) M' Q))) : Wq 4 0 0 mD_floatOf 12 [iR 0, iI x1, iI x2, none, none, none, none, none, none] [] M Q := by
  obtain ⟨s1, H⟩ := H
  refine wq_aload_n (pc := 12) dD_floatOf_12 rfl rfl ?_
  refine wq_getR (pc := 13) (z := 2) (b := 59) dD_floatOf_13 fO_D_22 sh_0 rfl rfl (rf_0_2 hS) ?_
  refine wq_getR (pc := 16) (z := 0) (b := 60) dD_floatOf_16 fO_D_356 sh_59 rfl rfl (rf_59_0 hS) ?_
  refine wq_iload_n (pc := 19) dD_floatOf_19 rfl rfl ?_
  refine wq_iald (pc := 20) dD_floatOf_20 sh_60 s1.1 s1.2 ?_
  refine wq_istore_n (pc := 21) (lo' := [iR 0, iI x1, iI x2, iI (gI M 60 x1), none, none, none, none, none]) dD_floatOf_21 rfl rfl rfl ?_
  refine wq_aload_n (pc := 22) dD_floatOf_22 rfl rfl ?_
  refine wq_getR (pc := 23) (z := 2) (b := 59) dD_floatOf_23 fO_D_22 sh_0 rfl rfl (rf_0_2 hS) ?_
  refine wq_aload_n (pc := 26) dD_floatOf_26 rfl rfl ?_
  refine wq_getR (pc := 27) (z := 0) (b := 1) dD_floatOf_27 fO_D_12 sh_0 rfl rfl (rf_0_0 hS) ?_
  refine wq_callV (d' := 3) (pc := 30) (as := [vR 1]) (rest := []) (lo' := [iR 59, iR 1, none, none, none, none]) dD_floatOf_30 mO_P_run lV_D_352 sh_59 (by decide) cl_4 rfl rfl rfl rfl rfl rfl ?_
  exact H

set_option maxRecDepth 20000 in
theorem B_D_floatOf_33 {x1 x2 x3 y0 : Int} {M : Mm} {Q : Mm → Option Mv → Prop} (H : Wq 4 0 0 mD_floatOf 45 [iR 0, iI x1, iI x2, iI x3, iI y0, iI 0, iI 99, iI 0, none] [] M Q) : Wq 4 0 0 mD_floatOf 33 [iR 0, iI x1, iI x2, iI x3, none, none, none, none, none] [vI y0] M Q := by
  refine wq_istore (pc := 33) (lo' := [iR 0, iI x1, iI x2, iI x3, iI y0, none, none, none, none]) dD_floatOf_33 rfl rfl ?_
  refine wq_iconst (pc := 35) dD_floatOf_35 rfl ?_
  refine wq_istore (pc := 36) (lo' := [iR 0, iI x1, iI x2, iI x3, iI y0, iI 0, none, none, none]) dD_floatOf_36 rfl rfl ?_
  refine wq_bipush (pc := 38) dD_floatOf_38 rfl ?_
  refine wq_istore (pc := 40) (lo' := [iR 0, iI x1, iI x2, iI x3, iI y0, iI 0, iI 99, none, none]) dD_floatOf_40 rfl rfl ?_
  refine wq_iconst (pc := 42) dD_floatOf_42 rfl ?_
  refine wq_istore (pc := 43) (lo' := [iR 0, iI x1, iI x2, iI x3, iI y0, iI 0, iI 99, iI 0, none]) dD_floatOf_43 rfl rfl ?_
  exact H

set_option maxRecDepth 20000 in
theorem B_D_floatOf_45 {x1 x2 x3 x4 x5 x6 x7 : Int} {M : Mm} {Q : Mm → Option Mv → Prop} (hS : RefOK M) (H : ((99 < x7 → Q M (some (vI x5))) ∧ (¬ 99 < x7 → ((x6 ≤ x5 → Q M (some (vI x5))) ∧ (¬ x6 ≤ x5 → (((-2147483648 ≤ x5 + x6 + 1 ∧ x5 + x6 + 1 < 2147483648) ∧ (-2147483648 ≤ Int.tdiv (x5 + x6 + 1) 2 ∧ Int.tdiv (x5 + x6 + 1) 2 < 2147483648) ∧ (-2147483648 ≤ x3 + Int.tdiv (x5 + x6 + 1) 2 ∧ x3 + Int.tdiv (x5 + x6 + 1) 2 < 2147483648) ∧ (0 ≤ x1 ∧ x1 < 16)) ∧ Wq 3 0 0 mP_run 0 [iR 59, iR 1, none, none, none, none] [] (sI M 60 x1 (x3 + Int.tdiv (x5 + x6 + 1) 2)) (fun M' v => Wq 4 0 0 mD_floatOf 94 [iR 0, iI x1, iI x2, iI x3, iI x4, iI x5, iI x6, iI x7, iI (Int.tdiv (x5 + x6 + 1) 2)] (v.toList ++ []) M' Q))))))) : Wq 4 0 0 mD_floatOf 45 [iR 0, iI x1, iI x2, iI x3, iI x4, iI x5, iI x6, iI x7, none] [] M Q := by
  refine wq_iload (pc := 45) dD_floatOf_45 rfl ?_
  refine wq_bipush (pc := 47) dD_floatOf_47 rfl ?_
  refine wq_icmp_gt (pc := 49) (tgt := 118) dD_floatOf_49 (by decide) (fun c1 => ?_) (fun c1 => ?_)
  · have H := H.1 c1
    refine wq_iload (pc := 118) dD_floatOf_118 rfl ?_
    refine wq_ireturn (pc := 120) dD_floatOf_120 trivial ?_
    exact H
  · have H := H.2 c1
    refine wq_iload (pc := 52) dD_floatOf_52 rfl ?_
    refine wq_iload (pc := 54) dD_floatOf_54 rfl ?_
    refine wq_icmp_ge (pc := 56) (tgt := 118) dD_floatOf_56 (by decide) (fun c2 => ?_) (fun c2 => ?_)
    · have H := H.1 c2
      refine wq_iload (pc := 118) dD_floatOf_118 rfl ?_
      refine wq_ireturn (pc := 120) dD_floatOf_120 trivial ?_
      exact H
    · have H := H.2 c2
      obtain ⟨⟨s3, s4, s5, s6⟩, H⟩ := H
      refine wq_iload (pc := 59) dD_floatOf_59 rfl ?_
      refine wq_iload (pc := 61) dD_floatOf_61 rfl ?_
      refine wq_iadd (pc := 63) dD_floatOf_63 ?_
      refine wq_iconst (pc := 64) dD_floatOf_64 rfl ?_
      refine wq_iadd (pc := 65) dD_floatOf_65 ?_
      refine wq_iconst (pc := 66) dD_floatOf_66 rfl ?_
      refine wq_re2 (x := (wr (wr (x5 + x6) + 1))) (y := (x5 + x6 + 1)) (by (try simp only [wr_al, wr_ar, wr_sl, wr_sr, wr_ml, wr_mr, wr_nn, wr_ww]); exact Eq.trans (wr_eq (by omega) (by omega)) (by omega)) ?_
      refine wq_idiv (pc := 67) dD_floatOf_67 (by decide) ?_
      refine wq_re (x := (wr (Int.tdiv (x5 + x6 + 1) 2))) (y := (Int.tdiv (x5 + x6 + 1) 2)) (Eq.trans (wr_eq (by omega) (by omega)) (by omega)) ?_
      refine wq_istore (pc := 68) (lo' := [iR 0, iI x1, iI x2, iI x3, iI x4, iI x5, iI x6, iI x7, iI (Int.tdiv (x5 + x6 + 1) 2)]) dD_floatOf_68 rfl rfl ?_
      refine wq_aload_n (pc := 70) dD_floatOf_70 rfl rfl ?_
      refine wq_getR (pc := 71) (z := 2) (b := 59) dD_floatOf_71 fO_D_22 sh_0 rfl rfl (rf_0_2 hS) ?_
      refine wq_getR (pc := 74) (z := 0) (b := 60) dD_floatOf_74 fO_D_356 sh_59 rfl rfl (rf_59_0 hS) ?_
      refine wq_iload_n (pc := 77) dD_floatOf_77 rfl rfl ?_
      refine wq_iload_n (pc := 78) dD_floatOf_78 rfl rfl ?_
      refine wq_iload (pc := 79) dD_floatOf_79 rfl ?_
      refine wq_iadd (pc := 81) dD_floatOf_81 ?_
      refine wq_re (x := (wr (x3 + Int.tdiv (x5 + x6 + 1) 2))) (y := (x3 + Int.tdiv (x5 + x6 + 1) 2)) (Eq.trans (wr_eq (by omega) (by omega)) (by omega)) ?_
      refine wq_iast (pc := 82) dD_floatOf_82 sh_60 (by decide) s6.1 s6.2 ?_
      refine wq_aload_n (pc := 83) dD_floatOf_83 rfl rfl ?_
      refine wq_getR (pc := 84) (z := 2) (b := 59) dD_floatOf_84 fO_D_22 sh_0 rfl rfl (rf_0_2 hS) ?_
      refine wq_aload_n (pc := 87) dD_floatOf_87 rfl rfl ?_
      refine wq_getR (pc := 88) (z := 0) (b := 1) dD_floatOf_88 fO_D_12 sh_0 rfl rfl (rf_0_0 hS) ?_
      refine wq_callV (d' := 3) (pc := 91) (as := [vR 1]) (rest := []) (lo' := [iR 59, iR 1, none, none, none, none]) dD_floatOf_91 mO_P_run lV_D_352 sh_59 (by decide) cl_4 rfl rfl rfl rfl rfl rfl ?_
      exact H

set_option maxRecDepth 20000 in
theorem B_D_floatOf_94 {x1 x2 x3 x4 x5 x6 x7 x8 y0 : Int} {M : Mm} {Q : Mm → Option Mv → Prop} (H : ((¬ y0 = x4 → (((-2147483648 ≤ x8 - 1 ∧ x8 - 1 < 2147483648) ∧ (-2147483648 ≤ x7 + 1 ∧ x7 + 1 < 2147483648)) ∧ Wq 4 0 0 mD_floatOf 45 [iR 0, iI x1, iI x2, iI x3, iI x4, iI x5, iI (x8 - 1), iI (x7 + 1), none] [] M Q)) ∧ (y0 = x4 → ((-2147483648 ≤ x7 + 1 ∧ x7 + 1 < 2147483648) ∧ Wq 4 0 0 mD_floatOf 45 [iR 0, iI x1, iI x2, iI x3, iI x4, iI x8, iI x6, iI (x7 + 1), none] [] M Q)))) : Wq 4 0 0 mD_floatOf 94 [iR 0, iI x1, iI x2, iI x3, iI x4, iI x5, iI x6, iI x7, iI x8] [vI y0] M Q := by
  refine wq_iload (pc := 94) dD_floatOf_94 rfl ?_
  refine wq_icmp_ne (pc := 96) (tgt := 106) dD_floatOf_96 (by decide) (fun c1 => ?_) (fun c1 => ?_)
  · have H := H.1 c1
    obtain ⟨⟨s2, s3⟩, H⟩ := H
    refine wq_iload (pc := 106) dD_floatOf_106 rfl ?_
    refine wq_iconst (pc := 108) dD_floatOf_108 rfl ?_
    refine wq_isub (pc := 109) dD_floatOf_109 ?_
    refine wq_re (x := (wr (x8 - 1))) (y := (x8 - 1)) (Eq.trans (wr_eq (by omega) (by omega)) (by omega)) ?_
    refine wq_istore (pc := 110) (lo' := [iR 0, iI x1, iI x2, iI x3, iI x4, iI x5, iI (x8 - 1), iI x7, iI x8]) dD_floatOf_110 rfl rfl ?_
    refine wq_iinc (pc := 112) (lo' := [iR 0, iI x1, iI x2, iI x3, iI x4, iI x5, iI (x8 - 1), iI (x7 + 1), iI x8]) dD_floatOf_112 rfl rfl (by rw [show wr (x7 + 1) = x7 + 1 from (Eq.trans (wr_eq (by omega) (by omega)) (by omega))]; rfl) ?_
    refine wq_goto (pc := 115) (tgt := 45) dD_floatOf_115 (by decide) ?_
    refine wq_drop [8] (lo' := [iR 0, iI x1, iI x2, iI x3, iI x4, iI x5, iI (x8 - 1), iI (x7 + 1), none]) rfl ?_
    exact H
  · have H := H.2 c1
    obtain ⟨s4, H⟩ := H
    refine wq_iload (pc := 99) dD_floatOf_99 rfl ?_
    refine wq_istore (pc := 101) (lo' := [iR 0, iI x1, iI x2, iI x3, iI x4, iI x8, iI x6, iI x7, iI x8]) dD_floatOf_101 rfl rfl ?_
    refine wq_goto (pc := 103) (tgt := 112) dD_floatOf_103 (by decide) ?_
    refine wq_iinc (pc := 112) (lo' := [iR 0, iI x1, iI x2, iI x3, iI x4, iI x8, iI x6, iI (x7 + 1), iI x8]) dD_floatOf_112 rfl rfl (by rw [show wr (x7 + 1) = x7 + 1 from (Eq.trans (wr_eq (by omega) (by omega)) (by omega))]; rfl) ?_
    refine wq_goto (pc := 115) (tgt := 45) dD_floatOf_115 (by decide) ?_
    refine wq_drop [8] (lo' := [iR 0, iI x1, iI x2, iI x3, iI x4, iI x8, iI x6, iI (x7 + 1), none]) rfl ?_
    exact H
set_option maxRecDepth 20000 in
theorem B_D_lostBy_0 {x1 x2 : Int} {M : Mm} {Q : Mm → Option Mv → Prop} (H : Wq 4 0 0 mD_endOf 0 [iR 0, iI x1] [] M (fun M' v => Wq 5 0 0 mD_lostBy 5 [iR 0, iI x1, iI x2] (v.toList ++ []) M' Q)) : Wq 5 0 0 mD_lostBy 0 [iR 0, iI x1, iI x2] [] M Q := by
  refine wq_aload_n (pc := 0) dD_lostBy_0 rfl rfl ?_
  refine wq_iload_n (pc := 1) dD_lostBy_1 rfl rfl ?_
  refine wq_callV (d' := 4) (pc := 2) (as := [vI x1]) (rest := []) (lo' := [iR 0, iI x1]) dD_lostBy_2 mO_D_endOf lV_D_192 sh_0 (by decide) cl_10 rfl rfl rfl rfl rfl rfl ?_
  exact H

set_option maxRecDepth 20000 in
theorem B_D_lostBy_5 {x1 x2 y0 : Int} {M : Mm} {Q : Mm → Option Mv → Prop} (H : Wq 4 0 0 mD_endOf 0 [iR 0, iI (bAnd x1 (bXor x2 (-1)))] [] M (fun M' v => Wq 5 0 0 mD_lostBy 14 [iR 0, iI x1, iI x2] (v.toList ++ [vI y0]) M' Q)) : Wq 5 0 0 mD_lostBy 5 [iR 0, iI x1, iI x2] [vI y0] M Q := by
  refine wq_aload_n (pc := 5) dD_lostBy_5 rfl rfl ?_
  refine wq_iload_n (pc := 6) dD_lostBy_6 rfl rfl ?_
  refine wq_iload_n (pc := 7) dD_lostBy_7 rfl rfl ?_
  refine wq_iconst (pc := 8) dD_lostBy_8 rfl ?_
  refine wq_ixor (pc := 9) dD_lostBy_9 ?_
  refine wq_iand (pc := 10) dD_lostBy_10 ?_
  refine wq_callV (d' := 4) (pc := 11) (as := [vI (bAnd x1 (bXor x2 (-1)))]) (rest := [vI y0]) (lo' := [iR 0, iI (bAnd x1 (bXor x2 (-1)))]) dD_lostBy_11 mO_D_endOf lV_D_192 sh_0 (by decide) cl_10 rfl rfl rfl rfl rfl rfl ?_
  exact H

set_option maxRecDepth 20000 in
theorem B_D_lostBy_14 {x1 x2 y0 y1 : Int} {M : Mm} {Q : Mm → Option Mv → Prop} (H : ((-2147483648 ≤ y1 - y0 ∧ y1 - y0 < 2147483648) ∧ Q M (some (vI (y1 - y0))))) : Wq 5 0 0 mD_lostBy 14 [iR 0, iI x1, iI x2] [vI y0, vI y1] M Q := by
  obtain ⟨s1, H⟩ := H
  refine wq_isub (pc := 14) dD_lostBy_14 ?_
  refine wq_re (x := (wr (y1 - y0))) (y := (y1 - y0)) (Eq.trans (wr_eq (by omega) (by omega)) (by omega)) ?_
  refine wq_ireturn (pc := 15) dD_lostBy_15 trivial ?_
  exact H
set_option maxRecDepth 20000 in
theorem B_D_addedBy_0 {x1 x2 : Int} {M : Mm} {Q : Mm → Option Mv → Prop} (hS : RefOK M) (H : Wq 2 0 0 mE_aheadOf 0 [iR 12, iI x1, iI x2, none, none, none] [] M (fun M' v => Wq 6 0 0 mD_addedBy 12 [iR 0, iI x1, iI x2, none] (v.toList ++ []) M' Q)) : Wq 6 0 0 mD_addedBy 0 [iR 0, iI x1, iI x2, none] [] M Q := by
  refine wq_aload_n (pc := 0) dD_addedBy_0 rfl rfl ?_
  refine wq_getR (pc := 1) (z := 0) (b := 1) dD_addedBy_1 fO_D_12 sh_0 rfl rfl (rf_0_0 hS) ?_
  refine wq_getR (pc := 4) (z := 2) (b := 12) dD_addedBy_4 fO_D_148 sh_1 rfl rfl (rf_1_2 hS) ?_
  refine wq_iload_n (pc := 7) dD_addedBy_7 rfl rfl ?_
  refine wq_iload_n (pc := 8) dD_addedBy_8 rfl rfl ?_
  refine wq_callV (d' := 2) (pc := 9) (as := [vI x1, vI x2]) (rest := []) (lo' := [iR 12, iI x1, iI x2, none, none, none]) dD_addedBy_9 mO_E_aheadOf lV_D_359 sh_12 (by decide) cl_2 rfl rfl rfl rfl rfl rfl ?_
  exact H

set_option maxRecDepth 20000 in
theorem B_D_addedBy_12 {x1 x2 y0 : Int} {M : Mm} {Q : Mm → Option Mv → Prop} (H : Wq 5 0 0 mD_lostBy 0 [iR 0, iI (bOr y0 (bShl 1 x1)), iI (bShl 1 x1)] [] M (fun M' v => Wq 6 0 0 mD_addedBy 25 [iR 0, iI x1, iI x2, iI y0] (v.toList ++ []) M' Q)) : Wq 6 0 0 mD_addedBy 12 [iR 0, iI x1, iI x2, none] [vI y0] M Q := by
  refine wq_istore_n (pc := 12) (lo' := [iR 0, iI x1, iI x2, iI y0]) dD_addedBy_12 rfl rfl rfl ?_
  refine wq_aload_n (pc := 13) dD_addedBy_13 rfl rfl ?_
  refine wq_iload_n (pc := 14) dD_addedBy_14 rfl rfl ?_
  refine wq_iconst (pc := 15) dD_addedBy_15 rfl ?_
  refine wq_iload_n (pc := 16) dD_addedBy_16 rfl rfl ?_
  refine wq_ishl (pc := 17) dD_addedBy_17 ?_
  refine wq_ior (pc := 18) dD_addedBy_18 ?_
  refine wq_iconst (pc := 19) dD_addedBy_19 rfl ?_
  refine wq_iload_n (pc := 20) dD_addedBy_20 rfl rfl ?_
  refine wq_ishl (pc := 21) dD_addedBy_21 ?_
  refine wq_callV (d' := 5) (pc := 22) (as := [vI (bOr y0 (bShl 1 x1)), vI (bShl 1 x1)]) (rest := []) (lo' := [iR 0, iI (bOr y0 (bShl 1 x1)), iI (bShl 1 x1)]) dD_addedBy_22 mO_D_lostBy lV_D_215 sh_0 (by decide) cl_10 rfl rfl rfl rfl rfl rfl ?_
  exact H

set_option maxRecDepth 20000 in
theorem B_D_addedBy_25 {x1 x2 x3 y0 : Int} {M : Mm} {Q : Mm → Option Mv → Prop} (H : Q M (some (vI y0))) : Wq 6 0 0 mD_addedBy 25 [iR 0, iI x1, iI x2, iI x3] [vI y0] M Q := by
  refine wq_ireturn (pc := 25) dD_addedBy_25 trivial ?_
  exact H
set_option maxRecDepth 20000 in
theorem B_D_partOf_0 {x1 x2 x3 : Int} {M : Mm} {Q : Mm → Option Mv → Prop} (hS : RefOK M) (H : Wq 2 0 0 mE_daysTogether 0 [iR 12, iI x3, none, none] [] M (fun M' v => Wq 3 0 0 mD_partOf 15 [iR 0, iI x1, iI x2, iI x3, iR 12, none, none, none, none, none, none, none] (v.toList ++ []) M' Q)) : Wq 3 0 0 mD_partOf 0 [iR 0, iI x1, iI x2, iI x3, none, none, none, none, none, none, none, none] [] M Q := by
  refine wq_aload_n (pc := 0) dD_partOf_0 rfl rfl ?_
  refine wq_getR (pc := 1) (z := 0) (b := 1) dD_partOf_1 fO_D_12 sh_0 rfl rfl (rf_0_0 hS) ?_
  refine wq_getR (pc := 4) (z := 2) (b := 12) dD_partOf_4 fO_D_148 sh_1 rfl rfl (rf_1_2 hS) ?_
  refine wq_astore (pc := 7) (lo' := [iR 0, iI x1, iI x2, iI x3, iR 12, none, none, none, none, none, none, none]) dD_partOf_7 rfl rfl ?_
  refine wq_aload (pc := 9) dD_partOf_9 rfl ?_
  refine wq_iload_n (pc := 11) dD_partOf_11 rfl rfl ?_
  refine wq_callV (d' := 2) (pc := 12) (as := [vI x3]) (rest := []) (lo' := [iR 12, iI x3, none, none]) dD_partOf_12 mO_E_daysTogether lV_D_362 sh_12 (by decide) cl_2 rfl rfl rfl rfl rfl rfl ?_
  exact H

set_option maxRecDepth 20000 in
theorem B_D_partOf_15 {x1 x2 x3 y0 : Int} {M : Mm} {Q : Mm → Option Mv → Prop} (H : ((0 < y0 → Wq 2 0 0 mE_ofCause 0 [iR 12, iI x3, iI x1, none, none] [] M (fun M' v => Wq 3 0 0 mD_partOf 34 [iR 0, iI x1, iI x2, iI x3, iR 12, iI y0, none, none, none, none, none, none] (v.toList ++ [vR 12, vI x2]) M' Q)) ∧ (¬ 0 < y0 → Q M (some (vI 0))))) : Wq 3 0 0 mD_partOf 15 [iR 0, iI x1, iI x2, iI x3, iR 12, none, none, none, none, none, none, none] [vI y0] M Q := by
  refine wq_istore (pc := 15) (lo' := [iR 0, iI x1, iI x2, iI x3, iR 12, iI y0, none, none, none, none, none, none]) dD_partOf_15 rfl rfl ?_
  refine wq_iload (pc := 17) dD_partOf_17 rfl ?_
  refine wq_if_gt (pc := 19) (tgt := 24) dD_partOf_19 (by decide) (fun c1 => ?_) (fun c1 => ?_)
  · have H := H.1 c1
    refine wq_iload_n (pc := 24) dD_partOf_24 rfl rfl ?_
    refine wq_aload (pc := 25) dD_partOf_25 rfl ?_
    refine wq_aload (pc := 27) dD_partOf_27 rfl ?_
    refine wq_iload_n (pc := 29) dD_partOf_29 rfl rfl ?_
    refine wq_iload_n (pc := 30) dD_partOf_30 rfl rfl ?_
    refine wq_callV (d' := 2) (pc := 31) (as := [vI x3, vI x1]) (rest := [vR 12, vI x2]) (lo' := [iR 12, iI x3, iI x1, none, none]) dD_partOf_31 mO_E_ofCause lV_D_218 sh_12 (by decide) cl_2 rfl rfl rfl rfl rfl rfl ?_
    exact H
  · have H := H.2 c1
    refine wq_iconst (pc := 22) dD_partOf_22 rfl ?_
    refine wq_ireturn (pc := 23) dD_partOf_23 trivial ?_
    exact H

set_option maxRecDepth 20000 in
theorem B_D_partOf_34 {x1 x2 x3 x5 y0 y2 : Int} {M : Mm} {Q : Mm → Option Mv → Prop} (H : Wq 2 0 0 mE_daysTogether 0 [iR 12, iI y0, none, none] [] M (fun M' v => Wq 3 0 0 mD_partOf 37 [iR 0, iI x1, iI x2, iI x3, iR 12, iI x5, none, none, none, none, none, none] (v.toList ++ [vI y2]) M' Q)) : Wq 3 0 0 mD_partOf 34 [iR 0, iI x1, iI x2, iI x3, iR 12, iI x5, none, none, none, none, none, none] [vI y0, vR 12, vI y2] M Q := by
  refine wq_callV (d' := 2) (pc := 34) (as := [vI y0]) (rest := [vI y2]) (lo' := [iR 12, iI y0, none, none]) dD_partOf_34 mO_E_daysTogether lV_D_362 sh_12 (by decide) cl_2 rfl rfl rfl rfl rfl rfl ?_
  exact H

set_option maxRecDepth 20000 in
theorem B_D_partOf_37 {x1 x2 x3 x5 y0 y1 : Int} {M : Mm} {Q : Mm → Option Mv → Prop} (H : ((-2147483648 ≤ y1 * y0 ∧ y1 * y0 < 2147483648) ∧ Wq 3 0 0 mD_partOf 49 [iR 0, iI x1, iI x2, iI x3, iR 12, iI x5, iI (y1 * y0), iI x2, iI 0, iI 0, none, none] [] M Q)) : Wq 3 0 0 mD_partOf 37 [iR 0, iI x1, iI x2, iI x3, iR 12, iI x5, none, none, none, none, none, none] [vI y0, vI y1] M Q := by
  obtain ⟨s1, H⟩ := H
  refine wq_imul (pc := 37) dD_partOf_37 ?_
  refine wq_re (x := (wr (y1 * y0))) (y := (y1 * y0)) (Eq.trans (wr_eq (by omega) (by omega)) (by omega)) ?_
  refine wq_istore (pc := 38) (lo' := [iR 0, iI x1, iI x2, iI x3, iR 12, iI x5, iI (y1 * y0), none, none, none, none, none]) dD_partOf_38 rfl rfl ?_
  refine wq_iload_n (pc := 40) dD_partOf_40 rfl rfl ?_
  refine wq_istore (pc := 41) (lo' := [iR 0, iI x1, iI x2, iI x3, iR 12, iI x5, iI (y1 * y0), iI x2, none, none, none, none]) dD_partOf_41 rfl rfl ?_
  refine wq_iconst (pc := 43) dD_partOf_43 rfl ?_
  refine wq_istore (pc := 44) (lo' := [iR 0, iI x1, iI x2, iI x3, iR 12, iI x5, iI (y1 * y0), iI x2, iI 0, none, none, none]) dD_partOf_44 rfl rfl ?_
  refine wq_iconst (pc := 46) dD_partOf_46 rfl ?_
  refine wq_istore (pc := 47) (lo' := [iR 0, iI x1, iI x2, iI x3, iR 12, iI x5, iI (y1 * y0), iI x2, iI 0, iI 0, none, none]) dD_partOf_47 rfl rfl ?_
  exact H

set_option maxRecDepth 20000 in
theorem B_D_partOf_49 {x1 x2 x3 x5 x6 x7 x8 x9 : Int} {M : Mm} {Q : Mm → Option Mv → Prop} (H : ((4 ≤ x9 → (¬ x5 = 0 ∧ ((x7 ≤ x8 → ((-2147483648 ≤ Int.tdiv x6 x5 ∧ Int.tdiv x6 x5 < 2147483648) ∧ Q M (some (vI (Int.tdiv x6 x5))))) ∧ (¬ x7 ≤ x8 → ((-2147483648 ≤ Int.tdiv x6 x5 + 1 ∧ Int.tdiv x6 x5 + 1 < 2147483648) ∧ Q M (some (vI (Int.tdiv x6 x5 + 1)))))))) ∧ (¬ 4 ≤ x9 → Wq 2 0 0 mE_ofCause 0 [iR 12, iI x3, iI x9, none, none] [] M (fun M' v => Wq 3 0 0 mD_partOf 66 [iR 0, iI x1, iI x2, iI x3, iR 12, iI x5, iI x6, iI x7, iI x8, iI x9, none, none] (v.toList ++ [vR 12, vI x2]) M' Q)))) : Wq 3 0 0 mD_partOf 49 [iR 0, iI x1, iI x2, iI x3, iR 12, iI x5, iI x6, iI x7, iI x8, iI x9, none, none] [] M Q := by
  refine wq_iload (pc := 49) dD_partOf_49 rfl ?_
  refine wq_iconst (pc := 51) dD_partOf_51 rfl ?_
  refine wq_icmp_ge (pc := 52) (tgt := 135) dD_partOf_52 (by decide) (fun c1 => ?_) (fun c1 => ?_)
  · have H := H.1 c1
    obtain ⟨s2, H⟩ := H
    refine wq_iload (pc := 135) dD_partOf_135 rfl ?_
    refine wq_iload (pc := 137) dD_partOf_137 rfl ?_
    refine wq_idiv (pc := 139) dD_partOf_139 s2 ?_
    refine wq_iload (pc := 140) dD_partOf_140 rfl ?_
    refine wq_iload (pc := 142) dD_partOf_142 rfl ?_
    refine wq_icmp_ge (pc := 144) (tgt := 151) dD_partOf_144 (by decide) (fun c3 => ?_) (fun c3 => ?_)
    · have H := H.1 c3
      obtain ⟨s4, H⟩ := H
      refine wq_iconst (pc := 151) dD_partOf_151 rfl ?_
      refine wq_iadd (pc := 152) dD_partOf_152 ?_
      refine wq_re (x := (wr (wr (Int.tdiv x6 x5) + 0))) (y := (Int.tdiv x6 x5)) (by (try simp only [wr_al, wr_ar, wr_sl, wr_sr, wr_ml, wr_mr, wr_nn, wr_ww]); exact Eq.trans (wr_eq (by omega) (by omega)) (by omega)) ?_
      refine wq_ireturn (pc := 153) dD_partOf_153 trivial ?_
      exact H
    · have H := H.2 c3
      obtain ⟨s5, H⟩ := H
      refine wq_iconst (pc := 147) dD_partOf_147 rfl ?_
      refine wq_goto (pc := 148) (tgt := 152) dD_partOf_148 (by decide) ?_
      refine wq_iadd (pc := 152) dD_partOf_152 ?_
      refine wq_re (x := (wr (wr (Int.tdiv x6 x5) + 1))) (y := (Int.tdiv x6 x5 + 1)) (by (try simp only [wr_al, wr_ar, wr_sl, wr_sr, wr_ml, wr_mr, wr_nn, wr_ww]); exact Eq.trans (wr_eq (by omega) (by omega)) (by omega)) ?_
      refine wq_ireturn (pc := 153) dD_partOf_153 trivial ?_
      exact H
  · have H := H.2 c1
    refine wq_iload_n (pc := 55) dD_partOf_55 rfl rfl ?_
    refine wq_aload (pc := 56) dD_partOf_56 rfl ?_
    refine wq_aload (pc := 58) dD_partOf_58 rfl ?_
    refine wq_iload_n (pc := 60) dD_partOf_60 rfl rfl ?_
    refine wq_iload (pc := 61) dD_partOf_61 rfl ?_
    refine wq_callV (d' := 2) (pc := 63) (as := [vI x3, vI x9]) (rest := [vR 12, vI x2]) (lo' := [iR 12, iI x3, iI x9, none, none]) dD_partOf_63 mO_E_ofCause lV_D_218 sh_12 (by decide) cl_2 rfl rfl rfl rfl rfl rfl ?_
    exact H

set_option maxRecDepth 20000 in
theorem B_D_partOf_66 {x1 x2 x3 x5 x6 x7 x8 x9 y0 y2 : Int} {M : Mm} {Q : Mm → Option Mv → Prop} (H : Wq 2 0 0 mE_daysTogether 0 [iR 12, iI y0, none, none] [] M (fun M' v => Wq 3 0 0 mD_partOf 69 [iR 0, iI x1, iI x2, iI x3, iR 12, iI x5, iI x6, iI x7, iI x8, iI x9, none, none] (v.toList ++ [vI y2]) M' Q)) : Wq 3 0 0 mD_partOf 66 [iR 0, iI x1, iI x2, iI x3, iR 12, iI x5, iI x6, iI x7, iI x8, iI x9, none, none] [vI y0, vR 12, vI y2] M Q := by
  refine wq_callV (d' := 2) (pc := 66) (as := [vI y0]) (rest := [vI y2]) (lo' := [iR 12, iI y0, none, none]) dD_partOf_66 mO_E_daysTogether lV_D_362 sh_12 (by decide) cl_2 rfl rfl rfl rfl rfl rfl ?_
  exact H

set_option maxRecDepth 20000 in
theorem B_D_partOf_69 {x1 x2 x3 x5 x6 x7 x8 x9 y0 y1 : Int} {M : Mm} {Q : Mm → Option Mv → Prop} (H : (((-2147483648 ≤ y1 * y0 ∧ y1 * y0 < 2147483648) ∧ ¬ x5 = 0 ∧ (-2147483648 ≤ x7 - Int.tdiv (y1 * y0) x5 ∧ x7 - Int.tdiv (y1 * y0) x5 < 2147483648) ∧ ¬ x5 = 0 ∧ ¬ x5 = 0 ∧ (-2147483648 ≤ Int.tmod x6 x5 ∧ Int.tmod x6 x5 < 2147483648) ∧ (-2147483648 ≤ Int.tmod (y1 * y0) x5 ∧ Int.tmod (y1 * y0) x5 < 2147483648)) ∧ ((¬ Int.tmod (y1 * y0) x5 = Int.tmod x6 x5 → ((¬ x5 = 0 ∧ ¬ x5 = 0) ∧ ((Int.tmod x6 x5 < Int.tmod (y1 * y0) x5 → (((-2147483648 ≤ x8 + 1 ∧ x8 + 1 < 2147483648) ∧ (-2147483648 ≤ x9 + 1 ∧ x9 + 1 < 2147483648)) ∧ Wq 3 0 0 mD_partOf 49 [iR 0, iI x1, iI x2, iI x3, iR 12, iI x5, iI x6, iI (x7 - Int.tdiv (y1 * y0) x5), iI (x8 + 1), iI (x9 + 1), none, none] [] M Q)) ∧ (¬ Int.tmod x6 x5 < Int.tmod (y1 * y0) x5 → ((-2147483648 ≤ x9 + 1 ∧ x9 + 1 < 2147483648) ∧ Wq 3 0 0 mD_partOf 49 [iR 0, iI x1, iI x2, iI x3, iR 12, iI x5, iI x6, iI (x7 - Int.tdiv (y1 * y0) x5), iI x8, iI (x9 + 1), none, none] [] M Q))))) ∧ (Int.tmod (y1 * y0) x5 = Int.tmod x6 x5 → ((x1 ≤ x9 → ((¬ x5 = 0 ∧ ¬ x5 = 0) ∧ ((Int.tmod x6 x5 < Int.tmod (y1 * y0) x5 → (((-2147483648 ≤ x8 + 1 ∧ x8 + 1 < 2147483648) ∧ (-2147483648 ≤ x9 + 1 ∧ x9 + 1 < 2147483648)) ∧ Wq 3 0 0 mD_partOf 49 [iR 0, iI x1, iI x2, iI x3, iR 12, iI x5, iI x6, iI (x7 - Int.tdiv (y1 * y0) x5), iI (x8 + 1), iI (x9 + 1), none, none] [] M Q)) ∧ (¬ Int.tmod x6 x5 < Int.tmod (y1 * y0) x5 → ((-2147483648 ≤ x9 + 1 ∧ x9 + 1 < 2147483648) ∧ Wq 3 0 0 mD_partOf 49 [iR 0, iI x1, iI x2, iI x3, iR 12, iI x5, iI x6, iI (x7 - Int.tdiv (y1 * y0) x5), iI x8, iI (x9 + 1), none, none] [] M Q))))) ∧ (¬ x1 ≤ x9 → ((¬ x5 = 0 ∧ ¬ x5 = 0) ∧ ((Int.tmod x6 x5 < Int.tmod (y1 * y0) x5 → (((-2147483648 ≤ x8 + 1 ∧ x8 + 1 < 2147483648) ∧ (-2147483648 ≤ x9 + 1 ∧ x9 + 1 < 2147483648)) ∧ Wq 3 0 0 mD_partOf 49 [iR 0, iI x1, iI x2, iI x3, iR 12, iI x5, iI x6, iI (x7 - Int.tdiv (y1 * y0) x5), iI (x8 + 1), iI (x9 + 1), none, none] [] M Q)) ∧ (¬ Int.tmod x6 x5 < Int.tmod (y1 * y0) x5 → (((-2147483648 ≤ x8 + 1 ∧ x8 + 1 < 2147483648) ∧ (-2147483648 ≤ x9 + 1 ∧ x9 + 1 < 2147483648)) ∧ Wq 3 0 0 mD_partOf 49 [iR 0, iI x1, iI x2, iI x3, iR 12, iI x5, iI x6, iI (x7 - Int.tdiv (y1 * y0) x5), iI (x8 + 1), iI (x9 + 1), none, none] [] M Q)))))))))) : Wq 3 0 0 mD_partOf 69 [iR 0, iI x1, iI x2, iI x3, iR 12, iI x5, iI x6, iI x7, iI x8, iI x9, none, none] [vI y0, vI y1] M Q := by
  obtain ⟨⟨s1, s2, s3, s4, s5, s6, s7⟩, H⟩ := H
  refine wq_imul (pc := 69) dD_partOf_69 ?_
  refine wq_re (x := (wr (y1 * y0))) (y := (y1 * y0)) (Eq.trans (wr_eq (by omega) (by omega)) (by omega)) ?_
  refine wq_istore (pc := 70) (lo' := [iR 0, iI x1, iI x2, iI x3, iR 12, iI x5, iI x6, iI x7, iI x8, iI x9, iI (y1 * y0), none]) dD_partOf_70 rfl rfl ?_
  refine wq_iload (pc := 72) dD_partOf_72 rfl ?_
  refine wq_iload (pc := 74) dD_partOf_74 rfl ?_
  refine wq_iload (pc := 76) dD_partOf_76 rfl ?_
  refine wq_idiv (pc := 78) dD_partOf_78 s2 ?_
  refine wq_isub (pc := 79) dD_partOf_79 ?_
  refine wq_re (x := (wr (x7 - wr (Int.tdiv (y1 * y0) x5)))) (y := (x7 - Int.tdiv (y1 * y0) x5)) (by (try simp only [wr_al, wr_ar, wr_sl, wr_sr, wr_ml, wr_mr, wr_nn, wr_ww]); exact Eq.trans (wr_eq (by omega) (by omega)) (by omega)) ?_
  refine wq_istore (pc := 80) (lo' := [iR 0, iI x1, iI x2, iI x3, iR 12, iI x5, iI x6, iI (x7 - Int.tdiv (y1 * y0) x5), iI x8, iI x9, iI (y1 * y0), none]) dD_partOf_80 rfl rfl ?_
  refine wq_iload (pc := 82) dD_partOf_82 rfl ?_
  refine wq_iload (pc := 84) dD_partOf_84 rfl ?_
  refine wq_irem (pc := 86) dD_partOf_86 s4 ?_
  refine wq_iload (pc := 87) dD_partOf_87 rfl ?_
  refine wq_iload (pc := 89) dD_partOf_89 rfl ?_
  refine wq_irem (pc := 91) dD_partOf_91 s5 ?_
  refine wq_re (x := (wr (Int.tmod x6 x5))) (y := (Int.tmod x6 x5)) (Eq.trans (wr_eq (by omega) (by omega)) (by omega)) ?_
  refine wq_re2 (x := (wr (Int.tmod (y1 * y0) x5))) (y := (Int.tmod (y1 * y0) x5)) (Eq.trans (wr_eq (by omega) (by omega)) (by omega)) ?_
  refine wq_icmp_ne (pc := 92) (tgt := 105) dD_partOf_92 (by decide) (fun c8 => ?_) (fun c8 => ?_)
  · have H := H.1 c8
    obtain ⟨⟨s9, s10⟩, H⟩ := H
    refine wq_iconst (pc := 105) dD_partOf_105 rfl ?_
    refine wq_istore (pc := 106) (lo' := [iR 0, iI x1, iI x2, iI x3, iR 12, iI x5, iI x6, iI (x7 - Int.tdiv (y1 * y0) x5), iI x8, iI x9, iI (y1 * y0), iI 0]) dD_partOf_106 rfl rfl ?_
    refine wq_iload (pc := 108) dD_partOf_108 rfl ?_
    refine wq_iload (pc := 110) dD_partOf_110 rfl ?_
    refine wq_irem (pc := 112) dD_partOf_112 s9 ?_
    refine wq_iload (pc := 113) dD_partOf_113 rfl ?_
    refine wq_iload (pc := 115) dD_partOf_115 rfl ?_
    refine wq_irem (pc := 117) dD_partOf_117 s10 ?_
    refine wq_re (x := (wr (Int.tmod x6 x5))) (y := (Int.tmod x6 x5)) (Eq.trans (wr_eq (by omega) (by omega)) (by omega)) ?_
    refine wq_re2 (x := (wr (Int.tmod (y1 * y0) x5))) (y := (Int.tmod (y1 * y0) x5)) (Eq.trans (wr_eq (by omega) (by omega)) (by omega)) ?_
    refine wq_icmp_gt (pc := 118) (tgt := 126) dD_partOf_118 (by decide) (fun c11 => ?_) (fun c11 => ?_)
    · have H := H.1 c11
      obtain ⟨⟨s12, s13⟩, H⟩ := H
      refine wq_iinc (pc := 126) (lo' := [iR 0, iI x1, iI x2, iI x3, iR 12, iI x5, iI x6, iI (x7 - Int.tdiv (y1 * y0) x5), iI (x8 + 1), iI x9, iI (y1 * y0), iI 0]) dD_partOf_126 rfl rfl (by rw [show wr (x8 + 1) = x8 + 1 from (Eq.trans (wr_eq (by omega) (by omega)) (by omega))]; rfl) ?_
      refine wq_iinc (pc := 129) (lo' := [iR 0, iI x1, iI x2, iI x3, iR 12, iI x5, iI x6, iI (x7 - Int.tdiv (y1 * y0) x5), iI (x8 + 1), iI (x9 + 1), iI (y1 * y0), iI 0]) dD_partOf_129 rfl rfl (by rw [show wr (x9 + 1) = x9 + 1 from (Eq.trans (wr_eq (by omega) (by omega)) (by omega))]; rfl) ?_
      refine wq_goto (pc := 132) (tgt := 49) dD_partOf_132 (by decide) ?_
      refine wq_drop [10, 11] (lo' := [iR 0, iI x1, iI x2, iI x3, iR 12, iI x5, iI x6, iI (x7 - Int.tdiv (y1 * y0) x5), iI (x8 + 1), iI (x9 + 1), none, none]) rfl ?_
      exact H
    · have H := H.2 c11
      obtain ⟨s14, H⟩ := H
      refine wq_iload (pc := 121) dD_partOf_121 rfl ?_
      refine wq_if_eq (pc := 123) (tgt := 129) dD_partOf_123 (by decide) (fun _ => ?_) (fun q => absurd (by decide) q)
      refine wq_iinc (pc := 129) (lo' := [iR 0, iI x1, iI x2, iI x3, iR 12, iI x5, iI x6, iI (x7 - Int.tdiv (y1 * y0) x5), iI x8, iI (x9 + 1), iI (y1 * y0), iI 0]) dD_partOf_129 rfl rfl (by rw [show wr (x9 + 1) = x9 + 1 from (Eq.trans (wr_eq (by omega) (by omega)) (by omega))]; rfl) ?_
      refine wq_goto (pc := 132) (tgt := 49) dD_partOf_132 (by decide) ?_
      refine wq_drop [10, 11] (lo' := [iR 0, iI x1, iI x2, iI x3, iR 12, iI x5, iI x6, iI (x7 - Int.tdiv (y1 * y0) x5), iI x8, iI (x9 + 1), none, none]) rfl ?_
      exact H
  · have H := H.2 c8
    refine wq_iload (pc := 95) dD_partOf_95 rfl ?_
    refine wq_iload_n (pc := 97) dD_partOf_97 rfl rfl ?_
    refine wq_icmp_ge (pc := 98) (tgt := 105) dD_partOf_98 (by decide) (fun c15 => ?_) (fun c15 => ?_)
    · have H := H.1 c15
      obtain ⟨⟨s16, s17⟩, H⟩ := H
      refine wq_iconst (pc := 105) dD_partOf_105 rfl ?_
      refine wq_istore (pc := 106) (lo' := [iR 0, iI x1, iI x2, iI x3, iR 12, iI x5, iI x6, iI (x7 - Int.tdiv (y1 * y0) x5), iI x8, iI x9, iI (y1 * y0), iI 0]) dD_partOf_106 rfl rfl ?_
      refine wq_iload (pc := 108) dD_partOf_108 rfl ?_
      refine wq_iload (pc := 110) dD_partOf_110 rfl ?_
      refine wq_irem (pc := 112) dD_partOf_112 s16 ?_
      refine wq_iload (pc := 113) dD_partOf_113 rfl ?_
      refine wq_iload (pc := 115) dD_partOf_115 rfl ?_
      refine wq_irem (pc := 117) dD_partOf_117 s17 ?_
      refine wq_re (x := (wr (Int.tmod x6 x5))) (y := (Int.tmod x6 x5)) (Eq.trans (wr_eq (by omega) (by omega)) (by omega)) ?_
      refine wq_re2 (x := (wr (Int.tmod (y1 * y0) x5))) (y := (Int.tmod (y1 * y0) x5)) (Eq.trans (wr_eq (by omega) (by omega)) (by omega)) ?_
      refine wq_icmp_gt (pc := 118) (tgt := 126) dD_partOf_118 (by decide) (fun c18 => ?_) (fun c18 => ?_)
      · have H := H.1 c18
        obtain ⟨⟨s19, s20⟩, H⟩ := H
        refine wq_iinc (pc := 126) (lo' := [iR 0, iI x1, iI x2, iI x3, iR 12, iI x5, iI x6, iI (x7 - Int.tdiv (y1 * y0) x5), iI (x8 + 1), iI x9, iI (y1 * y0), iI 0]) dD_partOf_126 rfl rfl (by rw [show wr (x8 + 1) = x8 + 1 from (Eq.trans (wr_eq (by omega) (by omega)) (by omega))]; rfl) ?_
        refine wq_iinc (pc := 129) (lo' := [iR 0, iI x1, iI x2, iI x3, iR 12, iI x5, iI x6, iI (x7 - Int.tdiv (y1 * y0) x5), iI (x8 + 1), iI (x9 + 1), iI (y1 * y0), iI 0]) dD_partOf_129 rfl rfl (by rw [show wr (x9 + 1) = x9 + 1 from (Eq.trans (wr_eq (by omega) (by omega)) (by omega))]; rfl) ?_
        refine wq_goto (pc := 132) (tgt := 49) dD_partOf_132 (by decide) ?_
        refine wq_drop [10, 11] (lo' := [iR 0, iI x1, iI x2, iI x3, iR 12, iI x5, iI x6, iI (x7 - Int.tdiv (y1 * y0) x5), iI (x8 + 1), iI (x9 + 1), none, none]) rfl ?_
        exact H
      · have H := H.2 c18
        obtain ⟨s21, H⟩ := H
        refine wq_iload (pc := 121) dD_partOf_121 rfl ?_
        refine wq_if_eq (pc := 123) (tgt := 129) dD_partOf_123 (by decide) (fun _ => ?_) (fun q => absurd (by decide) q)
        refine wq_iinc (pc := 129) (lo' := [iR 0, iI x1, iI x2, iI x3, iR 12, iI x5, iI x6, iI (x7 - Int.tdiv (y1 * y0) x5), iI x8, iI (x9 + 1), iI (y1 * y0), iI 0]) dD_partOf_129 rfl rfl (by rw [show wr (x9 + 1) = x9 + 1 from (Eq.trans (wr_eq (by omega) (by omega)) (by omega))]; rfl) ?_
        refine wq_goto (pc := 132) (tgt := 49) dD_partOf_132 (by decide) ?_
        refine wq_drop [10, 11] (lo' := [iR 0, iI x1, iI x2, iI x3, iR 12, iI x5, iI x6, iI (x7 - Int.tdiv (y1 * y0) x5), iI x8, iI (x9 + 1), none, none]) rfl ?_
        exact H
    · have H := H.2 c15
      obtain ⟨⟨s22, s23⟩, H⟩ := H
      refine wq_iconst (pc := 101) dD_partOf_101 rfl ?_
      refine wq_goto (pc := 102) (tgt := 106) dD_partOf_102 (by decide) ?_
      refine wq_istore (pc := 106) (lo' := [iR 0, iI x1, iI x2, iI x3, iR 12, iI x5, iI x6, iI (x7 - Int.tdiv (y1 * y0) x5), iI x8, iI x9, iI (y1 * y0), iI 1]) dD_partOf_106 rfl rfl ?_
      refine wq_iload (pc := 108) dD_partOf_108 rfl ?_
      refine wq_iload (pc := 110) dD_partOf_110 rfl ?_
      refine wq_irem (pc := 112) dD_partOf_112 s22 ?_
      refine wq_iload (pc := 113) dD_partOf_113 rfl ?_
      refine wq_iload (pc := 115) dD_partOf_115 rfl ?_
      refine wq_irem (pc := 117) dD_partOf_117 s23 ?_
      refine wq_re (x := (wr (Int.tmod x6 x5))) (y := (Int.tmod x6 x5)) (Eq.trans (wr_eq (by omega) (by omega)) (by omega)) ?_
      refine wq_re2 (x := (wr (Int.tmod (y1 * y0) x5))) (y := (Int.tmod (y1 * y0) x5)) (Eq.trans (wr_eq (by omega) (by omega)) (by omega)) ?_
      refine wq_icmp_gt (pc := 118) (tgt := 126) dD_partOf_118 (by decide) (fun c24 => ?_) (fun c24 => ?_)
      · have H := H.1 c24
        obtain ⟨⟨s25, s26⟩, H⟩ := H
        refine wq_iinc (pc := 126) (lo' := [iR 0, iI x1, iI x2, iI x3, iR 12, iI x5, iI x6, iI (x7 - Int.tdiv (y1 * y0) x5), iI (x8 + 1), iI x9, iI (y1 * y0), iI 1]) dD_partOf_126 rfl rfl (by rw [show wr (x8 + 1) = x8 + 1 from (Eq.trans (wr_eq (by omega) (by omega)) (by omega))]; rfl) ?_
        refine wq_iinc (pc := 129) (lo' := [iR 0, iI x1, iI x2, iI x3, iR 12, iI x5, iI x6, iI (x7 - Int.tdiv (y1 * y0) x5), iI (x8 + 1), iI (x9 + 1), iI (y1 * y0), iI 1]) dD_partOf_129 rfl rfl (by rw [show wr (x9 + 1) = x9 + 1 from (Eq.trans (wr_eq (by omega) (by omega)) (by omega))]; rfl) ?_
        refine wq_goto (pc := 132) (tgt := 49) dD_partOf_132 (by decide) ?_
        refine wq_drop [10, 11] (lo' := [iR 0, iI x1, iI x2, iI x3, iR 12, iI x5, iI x6, iI (x7 - Int.tdiv (y1 * y0) x5), iI (x8 + 1), iI (x9 + 1), none, none]) rfl ?_
        exact H
      · have H := H.2 c24
        obtain ⟨⟨s27, s28⟩, H⟩ := H
        refine wq_iload (pc := 121) dD_partOf_121 rfl ?_
        refine wq_if_eq (pc := 123) (tgt := 129) dD_partOf_123 (by decide) (fun q => absurd q (by decide)) (fun _ => ?_)
        refine wq_iinc (pc := 126) (lo' := [iR 0, iI x1, iI x2, iI x3, iR 12, iI x5, iI x6, iI (x7 - Int.tdiv (y1 * y0) x5), iI (x8 + 1), iI x9, iI (y1 * y0), iI 1]) dD_partOf_126 rfl rfl (by rw [show wr (x8 + 1) = x8 + 1 from (Eq.trans (wr_eq (by omega) (by omega)) (by omega))]; rfl) ?_
        refine wq_iinc (pc := 129) (lo' := [iR 0, iI x1, iI x2, iI x3, iR 12, iI x5, iI x6, iI (x7 - Int.tdiv (y1 * y0) x5), iI (x8 + 1), iI (x9 + 1), iI (y1 * y0), iI 1]) dD_partOf_129 rfl rfl (by rw [show wr (x9 + 1) = x9 + 1 from (Eq.trans (wr_eq (by omega) (by omega)) (by omega))]; rfl) ?_
        refine wq_goto (pc := 132) (tgt := 49) dD_partOf_132 (by decide) ?_
        refine wq_drop [10, 11] (lo' := [iR 0, iI x1, iI x2, iI x3, iR 12, iI x5, iI x6, iI (x7 - Int.tdiv (y1 * y0) x5), iI (x8 + 1), iI (x9 + 1), none, none]) rfl ?_
        exact H
set_option maxRecDepth 20000 in
theorem B_D_plan_0 {x1 x2 x3 : Int} {M : Mm} {Q : Mm → Option Mv → Prop} (hS : RefOK M) (H : ((x1 < 2147483648 ∧ (0 ≤ gI M 12 7 ∧ gI M 12 7 < 32)) ∧ ((0 ≤ x1 ∧ x1 < (2 : Int) ^ (gI M 12 7).toNat → ((0 ≤ x2 ∧ x2 < gI M 5 6 → ((0 ≤ x3 ∧ x3 ≤ 2 → ((¬ x3 = 2 → Wq 4 0 0 mD_endOf 0 [iR 0, iI x1] [] M (fun M' v => Wq 5 0 0 mD_plan 61 [iR 0, iI x1, iI x2, iI x3] (v.toList ++ []) M' Q)) ∧ (x3 = 2 → Wq 4 0 0 mD_floatOf 0 [iR 0, iI x2, iI x1, none, none, none, none, none, none] [] M (fun M' v => Wq 5 0 0 mD_plan 55 [iR 0, iI x1, iI x2, iI x3] (v.toList ++ []) M' Q)))) ∧ (¬ (0 ≤ x3 ∧ x3 ≤ 2) → Q (sI M 69 1 (wr (gI M 69 1 + 1))) (some (vI (-1000001)))))) ∧ (¬ (0 ≤ x2 ∧ x2 < gI M 5 6) → Q (sI M 69 1 (wr (gI M 69 1 + 1))) (some (vI (-1000001)))))) ∧ (¬ (0 ≤ x1 ∧ x1 < (2 : Int) ^ (gI M 12 7).toNat) → Q (sI M 69 1 (wr (gI M 69 1 + 1))) (some (vI (-1000001))))))) : Wq 5 0 0 mD_plan 0 [iR 0, iI x1, iI x2, iI x3] [] M Q := by
  obtain ⟨⟨s1, s2⟩, H⟩ := H
  refine wq_aload_n (pc := 0) dD_plan_0 rfl rfl ?_
  refine wq_getR (pc := 1) (z := 0) (b := 1) dD_plan_1 fO_D_12 sh_0 rfl rfl (rf_0_0 hS) ?_
  refine wq_getR (pc := 4) (z := 2) (b := 12) dD_plan_4 fO_D_148 sh_1 rfl rfl (rf_1_2 hS) ?_
  refine wq_iload_n (pc := 7) dD_plan_7 rfl rfl ?_
  refine wq_callV (d' := 1) (pc := 8) (as := [vI x1]) (rest := []) (lo' := [iR 12, iI x1]) dD_plan_8 mO_E_hold lV_D_186 sh_12 (by decide) cl_2 rfl rfl rfl rfl rfl rfl ?_
  refine sp_E_hold s1 s2 (fun c3 => ?_) (fun c3 => ?_)
  · have H := H.1 c3
    show Wq 5 0 0 mD_plan 11 [iR 0, iI x1, iI x2, iI x3] [vI 1] M _
    refine wq_if_eq (pc := 11) (tgt := 37) dD_plan_11 (by decide) (fun q => absurd q (by decide)) (fun _ => ?_)
    refine wq_aload_n (pc := 14) dD_plan_14 rfl rfl ?_
    refine wq_getR (pc := 15) (z := 0) (b := 1) dD_plan_15 fO_D_12 sh_0 rfl rfl (rf_0_0 hS) ?_
    refine wq_getR (pc := 18) (z := 1) (b := 5) dD_plan_18 fO_D_74 sh_1 rfl rfl (rf_1_1 hS) ?_
    refine wq_iload_n (pc := 21) dD_plan_21 rfl rfl ?_
    refine wq_callV (d' := 1) (pc := 22) (as := [vI x2]) (rest := []) (lo' := [iR 5, iI x2]) dD_plan_22 mO_W_has lV_D_88 sh_5 (by decide) cl_9 rfl rfl rfl rfl rfl rfl ?_
    refine sp_W_has (fun c4 => ?_) (fun c4 => ?_)
    · have H := H.1 c4
      show Wq 5 0 0 mD_plan 25 [iR 0, iI x1, iI x2, iI x3] [vI 1] M _
      refine wq_if_eq (pc := 25) (tgt := 37) dD_plan_25 (by decide) (fun q => absurd q (by decide)) (fun _ => ?_)
      refine wq_iload_n (pc := 28) dD_plan_28 rfl rfl ?_
      refine wq_iconst (pc := 29) dD_plan_29 rfl ?_
      refine wq_iconst (pc := 30) dD_plan_30 rfl ?_
      refine wq_callS (d' := 1) (pc := 31) (as := [vI x3, vI 0, vI 2]) (rest := []) (lo' := [iI x3, iI 0, iI 2]) dD_plan_31 mO_D_within lS_D_65 rfl rfl rfl rfl rfl rfl ?_
      refine sp_D_within (fun c5 => ?_) (fun c5 => ?_)
      · have H := H.1 c5
        show Wq 5 0 0 mD_plan 34 [iR 0, iI x1, iI x2, iI x3] [vI 1] M _
        refine wq_if_ne (pc := 34) (tgt := 44) dD_plan_34 (by decide) (fun _ => ?_) (fun q => absurd q (by decide))
        refine wq_iload_n (pc := 44) dD_plan_44 rfl rfl ?_
        refine wq_iconst (pc := 45) dD_plan_45 rfl ?_
        refine wq_icmp_ne (pc := 46) (tgt := 56) dD_plan_46 (by decide) (fun c6 => ?_) (fun c6 => ?_)
        · have H := H.1 c6
          refine wq_aload_n (pc := 56) dD_plan_56 rfl rfl ?_
          refine wq_iload_n (pc := 57) dD_plan_57 rfl rfl ?_
          refine wq_callV (d' := 4) (pc := 58) (as := [vI x1]) (rest := []) (lo' := [iR 0, iI x1]) dD_plan_58 mO_D_endOf lV_D_192 sh_0 (by decide) cl_10 rfl rfl rfl rfl rfl rfl ?_
          exact H
        · have H := H.2 c6
          refine wq_aload_n (pc := 49) dD_plan_49 rfl rfl ?_
          refine wq_iload_n (pc := 50) dD_plan_50 rfl rfl ?_
          refine wq_iload_n (pc := 51) dD_plan_51 rfl rfl ?_
          refine wq_callV (d' := 4) (pc := 52) (as := [vI x2, vI x1]) (rest := []) (lo' := [iR 0, iI x2, iI x1, none, none, none, none, none, none]) dD_plan_52 mO_D_floatOf lV_D_189 sh_0 (by decide) cl_10 rfl rfl rfl rfl rfl rfl ?_
          exact H
      · have H := H.2 c5
        show Wq 5 0 0 mD_plan 34 [iR 0, iI x1, iI x2, iI x3] [vI 0] M _
        refine wq_if_ne (pc := 34) (tgt := 44) dD_plan_34 (by decide) (fun q => absurd q (by decide)) (fun _ => ?_)
        refine wq_aload_n (pc := 37) dD_plan_37 rfl rfl ?_
        refine wq_ldc (pc := 38) (z := (-1000001)) dD_plan_38 kO_D_69 (by decide) ?_
        refine wq_callV (d' := 2) (pc := 40) (as := [vI (-1000001)]) (rest := []) (lo' := [iR 0, iI ((-1000001)), none]) dD_plan_40 mO_D_finding lV_D_70 sh_0 (by decide) cl_10 rfl rfl rfl rfl rfl rfl ?_
        refine sp_D_finding (k := 1) (by decide) (by decide) (by decide) hS ?_
        show Wq 5 0 0 mD_plan 43 [iR 0, iI x1, iI x2, iI x3] [vI (-1000001)] (sI M 69 1 (wr (gI M 69 1 + 1))) _
        refine wq_ireturn (pc := 43) dD_plan_43 trivial ?_
        exact H
    · have H := H.2 c4
      show Wq 5 0 0 mD_plan 25 [iR 0, iI x1, iI x2, iI x3] [vI 0] M _
      refine wq_if_eq (pc := 25) (tgt := 37) dD_plan_25 (by decide) (fun _ => ?_) (fun q => absurd (by decide) q)
      refine wq_aload_n (pc := 37) dD_plan_37 rfl rfl ?_
      refine wq_ldc (pc := 38) (z := (-1000001)) dD_plan_38 kO_D_69 (by decide) ?_
      refine wq_callV (d' := 2) (pc := 40) (as := [vI (-1000001)]) (rest := []) (lo' := [iR 0, iI ((-1000001)), none]) dD_plan_40 mO_D_finding lV_D_70 sh_0 (by decide) cl_10 rfl rfl rfl rfl rfl rfl ?_
      refine sp_D_finding (k := 1) (by decide) (by decide) (by decide) hS ?_
      show Wq 5 0 0 mD_plan 43 [iR 0, iI x1, iI x2, iI x3] [vI (-1000001)] (sI M 69 1 (wr (gI M 69 1 + 1))) _
      refine wq_ireturn (pc := 43) dD_plan_43 trivial ?_
      exact H
  · have H := H.2 c3
    show Wq 5 0 0 mD_plan 11 [iR 0, iI x1, iI x2, iI x3] [vI 0] M _
    refine wq_if_eq (pc := 11) (tgt := 37) dD_plan_11 (by decide) (fun _ => ?_) (fun q => absurd (by decide) q)
    refine wq_aload_n (pc := 37) dD_plan_37 rfl rfl ?_
    refine wq_ldc (pc := 38) (z := (-1000001)) dD_plan_38 kO_D_69 (by decide) ?_
    refine wq_callV (d' := 2) (pc := 40) (as := [vI (-1000001)]) (rest := []) (lo' := [iR 0, iI ((-1000001)), none]) dD_plan_40 mO_D_finding lV_D_70 sh_0 (by decide) cl_10 rfl rfl rfl rfl rfl rfl ?_
    refine sp_D_finding (k := 1) (by decide) (by decide) (by decide) hS ?_
    show Wq 5 0 0 mD_plan 43 [iR 0, iI x1, iI x2, iI x3] [vI (-1000001)] (sI M 69 1 (wr (gI M 69 1 + 1))) _
    refine wq_ireturn (pc := 43) dD_plan_43 trivial ?_
    exact H

set_option maxRecDepth 20000 in
theorem B_D_plan_55 {x1 x2 x3 y0 : Int} {M : Mm} {Q : Mm → Option Mv → Prop} (H : Q M (some (vI y0))) : Wq 5 0 0 mD_plan 55 [iR 0, iI x1, iI x2, iI x3] [vI y0] M Q := by
  refine wq_ireturn (pc := 55) dD_plan_55 trivial ?_
  exact H

set_option maxRecDepth 20000 in
theorem B_D_plan_61 {x1 x2 x3 y0 : Int} {M : Mm} {Q : Mm → Option Mv → Prop} (hS : RefOK M) (H : ((¬ x3 = 0 → ((0 ≤ x2 ∧ x2 < 16) ∧ Q M (some (vI (gI M 62 x2))))) ∧ (x3 = 0 → ((0 ≤ x2 ∧ x2 < 16) ∧ Q M (some (vI (gI M 61 x2))))))) : Wq 5 0 0 mD_plan 61 [iR 0, iI x1, iI x2, iI x3] [vI y0] M Q := by
  refine wq_pop (pc := 61) dD_plan_61 rfl ?_
  refine wq_iload_n (pc := 62) dD_plan_62 rfl rfl ?_
  refine wq_if_ne (pc := 63) (tgt := 78) dD_plan_63 (by decide) (fun c1 => ?_) (fun c1 => ?_)
  · have H := H.1 c1
    obtain ⟨s2, H⟩ := H
    refine wq_aload_n (pc := 78) dD_plan_78 rfl rfl ?_
    refine wq_getR (pc := 79) (z := 2) (b := 59) dD_plan_79 fO_D_22 sh_0 rfl rfl (rf_0_2 hS) ?_
    refine wq_getR (pc := 82) (z := 2) (b := 62) dD_plan_82 fO_D_198 sh_59 rfl rfl (rf_59_2 hS) ?_
    refine wq_iload_n (pc := 85) dD_plan_85 rfl rfl ?_
    refine wq_iald (pc := 86) dD_plan_86 sh_62 s2.1 s2.2 ?_
    refine wq_ireturn (pc := 87) dD_plan_87 trivial ?_
    exact H
  · have H := H.2 c1
    obtain ⟨s3, H⟩ := H
    refine wq_aload_n (pc := 66) dD_plan_66 rfl rfl ?_
    refine wq_getR (pc := 67) (z := 2) (b := 59) dD_plan_67 fO_D_22 sh_0 rfl rfl (rf_0_2 hS) ?_
    refine wq_getR (pc := 70) (z := 1) (b := 61) dD_plan_70 fO_D_195 sh_59 rfl rfl (rf_59_1 hS) ?_
    refine wq_iload_n (pc := 73) dD_plan_73 rfl rfl ?_
    refine wq_iald (pc := 74) dD_plan_74 sh_61 s3.1 s3.2 ?_
    refine wq_goto (pc := 75) (tgt := 87) dD_plan_75 (by decide) ?_
    refine wq_ireturn (pc := 87) dD_plan_87 trivial ?_
    exact H
set_option maxRecDepth 20000 in
theorem B_D_end_0 {x1 : Int} {M : Mm} {Q : Mm → Option Mv → Prop} (hS : RefOK M) (H : ((x1 < 2147483648 ∧ (0 ≤ gI M 12 7 ∧ gI M 12 7 < 32)) ∧ ((0 ≤ x1 ∧ x1 < (2 : Int) ^ (gI M 12 7).toNat → Wq 4 0 0 mD_endOf 0 [iR 0, iI x1] [] M (fun M' v => Wq 5 0 0 mD_end 19 [iR 0, iI x1] (v.toList ++ []) M' Q)) ∧ (¬ (0 ≤ x1 ∧ x1 < (2 : Int) ^ (gI M 12 7).toNat) → Q (sI M 69 1 (wr (gI M 69 1 + 1))) (some (vI (-1000001))))))) : Wq 5 0 0 mD_end 0 [iR 0, iI x1] [] M Q := by
  obtain ⟨⟨s1, s2⟩, H⟩ := H
  refine wq_aload_n (pc := 0) dD_end_0 rfl rfl ?_
  refine wq_getR (pc := 1) (z := 0) (b := 1) dD_end_1 fO_D_12 sh_0 rfl rfl (rf_0_0 hS) ?_
  refine wq_getR (pc := 4) (z := 2) (b := 12) dD_end_4 fO_D_148 sh_1 rfl rfl (rf_1_2 hS) ?_
  refine wq_iload_n (pc := 7) dD_end_7 rfl rfl ?_
  refine wq_callV (d' := 1) (pc := 8) (as := [vI x1]) (rest := []) (lo' := [iR 12, iI x1]) dD_end_8 mO_E_hold lV_D_186 sh_12 (by decide) cl_2 rfl rfl rfl rfl rfl rfl ?_
  refine sp_E_hold s1 s2 (fun c3 => ?_) (fun c3 => ?_)
  · have H := H.1 c3
    show Wq 5 0 0 mD_end 11 [iR 0, iI x1] [vI 1] M _
    refine wq_if_eq (pc := 11) (tgt := 22) dD_end_11 (by decide) (fun q => absurd q (by decide)) (fun _ => ?_)
    refine wq_aload_n (pc := 14) dD_end_14 rfl rfl ?_
    refine wq_iload_n (pc := 15) dD_end_15 rfl rfl ?_
    refine wq_callV (d' := 4) (pc := 16) (as := [vI x1]) (rest := []) (lo' := [iR 0, iI x1]) dD_end_16 mO_D_endOf lV_D_192 sh_0 (by decide) cl_10 rfl rfl rfl rfl rfl rfl ?_
    exact H
  · have H := H.2 c3
    show Wq 5 0 0 mD_end 11 [iR 0, iI x1] [vI 0] M _
    refine wq_if_eq (pc := 11) (tgt := 22) dD_end_11 (by decide) (fun _ => ?_) (fun q => absurd (by decide) q)
    refine wq_aload_n (pc := 22) dD_end_22 rfl rfl ?_
    refine wq_ldc (pc := 23) (z := (-1000001)) dD_end_23 kO_D_69 (by decide) ?_
    refine wq_callV (d' := 2) (pc := 25) (as := [vI (-1000001)]) (rest := []) (lo' := [iR 0, iI ((-1000001)), none]) dD_end_25 mO_D_finding lV_D_70 sh_0 (by decide) cl_10 rfl rfl rfl rfl rfl rfl ?_
    refine sp_D_finding (k := 1) (by decide) (by decide) (by decide) hS ?_
    show Wq 5 0 0 mD_end 28 [iR 0, iI x1] [vI (-1000001)] (sI M 69 1 (wr (gI M 69 1 + 1))) _
    refine wq_ireturn (pc := 28) dD_end_28 trivial ?_
    exact H

set_option maxRecDepth 20000 in
theorem B_D_end_19 {x1 y0 : Int} {M : Mm} {Q : Mm → Option Mv → Prop} (H : Q M (some (vI y0))) : Wq 5 0 0 mD_end 19 [iR 0, iI x1] [vI y0] M Q := by
  refine wq_goto (pc := 19) (tgt := 28) dD_end_19 (by decide) ?_
  refine wq_ireturn (pc := 28) dD_end_28 trivial ?_
  exact H
set_option maxRecDepth 20000 in
theorem B_D_chain_0 {x1 x2 : Int} {M : Mm} {Q : Mm → Option Mv → Prop} (hS : RefOK M) (H : ((x1 < 2147483648 ∧ (0 ≤ gI M 12 7 ∧ gI M 12 7 < 32)) ∧ ((0 ≤ x1 ∧ x1 < (2 : Int) ^ (gI M 12 7).toNat → ((0 ≤ x2 → Wq 4 0 0 mD_endOf 0 [iR 0, iI x1] [] M (fun M' v => Wq 5 0 0 mD_chain 30 [iR 0, iI x1, iI x2, none, none] (v.toList ++ []) M' Q)) ∧ (¬ 0 ≤ x2 → Q (sI M 69 1 (wr (gI M 69 1 + 1))) (some (vI (-1000001)))))) ∧ (¬ (0 ≤ x1 ∧ x1 < (2 : Int) ^ (gI M 12 7).toNat) → Q (sI M 69 1 (wr (gI M 69 1 + 1))) (some (vI (-1000001))))))) : Wq 5 0 0 mD_chain 0 [iR 0, iI x1, iI x2, none, none] [] M Q := by
  obtain ⟨⟨s1, s2⟩, H⟩ := H
  refine wq_aload_n (pc := 0) dD_chain_0 rfl rfl ?_
  refine wq_getR (pc := 1) (z := 0) (b := 1) dD_chain_1 fO_D_12 sh_0 rfl rfl (rf_0_0 hS) ?_
  refine wq_getR (pc := 4) (z := 2) (b := 12) dD_chain_4 fO_D_148 sh_1 rfl rfl (rf_1_2 hS) ?_
  refine wq_iload_n (pc := 7) dD_chain_7 rfl rfl ?_
  refine wq_callV (d' := 1) (pc := 8) (as := [vI x1]) (rest := []) (lo' := [iR 12, iI x1]) dD_chain_8 mO_E_hold lV_D_186 sh_12 (by decide) cl_2 rfl rfl rfl rfl rfl rfl ?_
  refine sp_E_hold s1 s2 (fun c3 => ?_) (fun c3 => ?_)
  · have H := H.1 c3
    show Wq 5 0 0 mD_chain 11 [iR 0, iI x1, iI x2, none, none] [vI 1] M _
    refine wq_if_eq (pc := 11) (tgt := 18) dD_chain_11 (by decide) (fun q => absurd q (by decide)) (fun _ => ?_)
    refine wq_iload_n (pc := 14) dD_chain_14 rfl rfl ?_
    refine wq_if_ge (pc := 15) (tgt := 25) dD_chain_15 (by decide) (fun c4 => ?_) (fun c4 => ?_)
    · have H := H.1 c4
      refine wq_aload_n (pc := 25) dD_chain_25 rfl rfl ?_
      refine wq_iload_n (pc := 26) dD_chain_26 rfl rfl ?_
      refine wq_callV (d' := 4) (pc := 27) (as := [vI x1]) (rest := []) (lo' := [iR 0, iI x1]) dD_chain_27 mO_D_endOf lV_D_192 sh_0 (by decide) cl_10 rfl rfl rfl rfl rfl rfl ?_
      exact H
    · have H := H.2 c4
      refine wq_aload_n (pc := 18) dD_chain_18 rfl rfl ?_
      refine wq_ldc (pc := 19) (z := (-1000001)) dD_chain_19 kO_D_69 (by decide) ?_
      refine wq_callV (d' := 2) (pc := 21) (as := [vI (-1000001)]) (rest := []) (lo' := [iR 0, iI ((-1000001)), none]) dD_chain_21 mO_D_finding lV_D_70 sh_0 (by decide) cl_10 rfl rfl rfl rfl rfl rfl ?_
      refine sp_D_finding (k := 1) (by decide) (by decide) (by decide) hS ?_
      show Wq 5 0 0 mD_chain 24 [iR 0, iI x1, iI x2, none, none] [vI (-1000001)] (sI M 69 1 (wr (gI M 69 1 + 1))) _
      refine wq_ireturn (pc := 24) dD_chain_24 trivial ?_
      exact H
  · have H := H.2 c3
    show Wq 5 0 0 mD_chain 11 [iR 0, iI x1, iI x2, none, none] [vI 0] M _
    refine wq_if_eq (pc := 11) (tgt := 18) dD_chain_11 (by decide) (fun _ => ?_) (fun q => absurd (by decide) q)
    refine wq_aload_n (pc := 18) dD_chain_18 rfl rfl ?_
    refine wq_ldc (pc := 19) (z := (-1000001)) dD_chain_19 kO_D_69 (by decide) ?_
    refine wq_callV (d' := 2) (pc := 21) (as := [vI (-1000001)]) (rest := []) (lo' := [iR 0, iI ((-1000001)), none]) dD_chain_21 mO_D_finding lV_D_70 sh_0 (by decide) cl_10 rfl rfl rfl rfl rfl rfl ?_
    refine sp_D_finding (k := 1) (by decide) (by decide) (by decide) hS ?_
    show Wq 5 0 0 mD_chain 24 [iR 0, iI x1, iI x2, none, none] [vI (-1000001)] (sI M 69 1 (wr (gI M 69 1 + 1))) _
    refine wq_ireturn (pc := 24) dD_chain_24 trivial ?_
    exact H

set_option maxRecDepth 20000 in
theorem B_D_chain_30 {x1 x2 y0 : Int} {M : Mm} {Q : Mm → Option Mv → Prop} (hS : RefOK M) (H : Wq 1 0 0 mP_lastWork 0 [iR 59, iR 5, none, none] [] M (fun M' v => Wq 5 0 0 mD_chain 45 [iR 0, iI x1, iI x2, none, none] (v.toList ++ []) M' Q)) : Wq 5 0 0 mD_chain 30 [iR 0, iI x1, iI x2, none, none] [vI y0] M Q := by
  refine wq_pop (pc := 30) dD_chain_30 rfl ?_
  refine wq_aload_n (pc := 31) dD_chain_31 rfl rfl ?_
  refine wq_getR (pc := 32) (z := 2) (b := 59) dD_chain_32 fO_D_22 sh_0 rfl rfl (rf_0_2 hS) ?_
  refine wq_aload_n (pc := 35) dD_chain_35 rfl rfl ?_
  refine wq_getR (pc := 36) (z := 0) (b := 1) dD_chain_36 fO_D_12 sh_0 rfl rfl (rf_0_0 hS) ?_
  refine wq_getR (pc := 39) (z := 1) (b := 5) dD_chain_39 fO_D_74 sh_1 rfl rfl (rf_1_1 hS) ?_
  refine wq_callV (d' := 1) (pc := 42) (as := [vR 5]) (rest := []) (lo' := [iR 59, iR 5, none, none]) dD_chain_42 mO_P_lastWork lV_D_201 sh_59 (by decide) cl_4 rfl rfl rfl rfl rfl rfl ?_
  exact H

set_option maxRecDepth 20000 in
theorem B_D_chain_45 {x1 x2 y0 : Int} {M : Mm} {Q : Mm → Option Mv → Prop} (H : Wq 5 0 0 mD_chain 49 [iR 0, iI x1, iI x2, iI y0, iI 0] [] M Q) : Wq 5 0 0 mD_chain 45 [iR 0, iI x1, iI x2, none, none] [vI y0] M Q := by
  refine wq_istore_n (pc := 45) (lo' := [iR 0, iI x1, iI x2, iI y0, none]) dD_chain_45 rfl rfl rfl ?_
  refine wq_iconst (pc := 46) dD_chain_46 rfl ?_
  refine wq_istore (pc := 47) (lo' := [iR 0, iI x1, iI x2, iI y0, iI 0]) dD_chain_47 rfl rfl ?_
  exact H

set_option maxRecDepth 20000 in
theorem B_D_chain_49 {x1 x2 x3 x4 : Int} {M : Mm} {Q : Mm → Option Mv → Prop} (hS : RefOK M) (H : ((16 ≤ x4 → ((x3 < 0 → Q (sI M 69 2 (wr (gI M 69 2 + 1))) (some (vI (-1000002)))) ∧ (¬ x3 < 0 → Q M (some (vI x3))))) ∧ (¬ 16 ≤ x4 → ((x2 ≤ x4 → ((x3 < 0 → Q (sI M 69 2 (wr (gI M 69 2 + 1))) (some (vI (-1000002)))) ∧ (¬ x3 < 0 → Q M (some (vI x3))))) ∧ (¬ x2 ≤ x4 → ((x3 < 0 → ((x3 < 0 → Q (sI M 69 2 (wr (gI M 69 2 + 1))) (some (vI (-1000002)))) ∧ (¬ x3 < 0 → Q M (some (vI x3))))) ∧ (¬ x3 < 0 → Wq 3 0 0 mP_rulerOf 0 [iR 59, iI x3, iR 5, none, none] [] M (fun M' v => Wq 5 0 0 mD_chain 81 [iR 0, iI x1, iI x2, iI x3, iI x4] (v.toList ++ []) M' Q)))))))) : Wq 5 0 0 mD_chain 49 [iR 0, iI x1, iI x2, iI x3, iI x4] [] M Q := by
  refine wq_iload (pc := 49) dD_chain_49 rfl ?_
  refine wq_bipush (pc := 51) dD_chain_51 rfl ?_
  refine wq_icmp_ge (pc := 53) (tgt := 88) dD_chain_53 (by decide) (fun c1 => ?_) (fun c1 => ?_)
  · have H := H.1 c1
    refine wq_iload_n (pc := 88) dD_chain_88 rfl rfl ?_
    refine wq_if_lt (pc := 89) (tgt := 96) dD_chain_89 (by decide) (fun c2 => ?_) (fun c2 => ?_)
    · have H := H.1 c2
      refine wq_aload_n (pc := 96) dD_chain_96 rfl rfl ?_
      refine wq_ldc (pc := 97) (z := (-1000002)) dD_chain_97 kO_D_125 (by decide) ?_
      refine wq_callV (d' := 2) (pc := 99) (as := [vI (-1000002)]) (rest := []) (lo' := [iR 0, iI ((-1000002)), none]) dD_chain_99 mO_D_finding lV_D_70 sh_0 (by decide) cl_10 rfl rfl rfl rfl rfl rfl ?_
      refine sp_D_finding (k := 2) (by decide) (by decide) (by decide) hS ?_
      show Wq 5 0 0 mD_chain 102 [iR 0, iI x1, iI x2, iI x3, iI x4] [vI (-1000002)] (sI M 69 2 (wr (gI M 69 2 + 1))) _
      refine wq_ireturn (pc := 102) dD_chain_102 trivial ?_
      exact H
    · have H := H.2 c2
      refine wq_iload_n (pc := 92) dD_chain_92 rfl rfl ?_
      refine wq_goto (pc := 93) (tgt := 102) dD_chain_93 (by decide) ?_
      refine wq_ireturn (pc := 102) dD_chain_102 trivial ?_
      exact H
  · have H := H.2 c1
    refine wq_iload (pc := 56) dD_chain_56 rfl ?_
    refine wq_iload_n (pc := 58) dD_chain_58 rfl rfl ?_
    refine wq_icmp_ge (pc := 59) (tgt := 88) dD_chain_59 (by decide) (fun c3 => ?_) (fun c3 => ?_)
    · have H := H.1 c3
      refine wq_iload_n (pc := 88) dD_chain_88 rfl rfl ?_
      refine wq_if_lt (pc := 89) (tgt := 96) dD_chain_89 (by decide) (fun c4 => ?_) (fun c4 => ?_)
      · have H := H.1 c4
        refine wq_aload_n (pc := 96) dD_chain_96 rfl rfl ?_
        refine wq_ldc (pc := 97) (z := (-1000002)) dD_chain_97 kO_D_125 (by decide) ?_
        refine wq_callV (d' := 2) (pc := 99) (as := [vI (-1000002)]) (rest := []) (lo' := [iR 0, iI ((-1000002)), none]) dD_chain_99 mO_D_finding lV_D_70 sh_0 (by decide) cl_10 rfl rfl rfl rfl rfl rfl ?_
        refine sp_D_finding (k := 2) (by decide) (by decide) (by decide) hS ?_
        show Wq 5 0 0 mD_chain 102 [iR 0, iI x1, iI x2, iI x3, iI x4] [vI (-1000002)] (sI M 69 2 (wr (gI M 69 2 + 1))) _
        refine wq_ireturn (pc := 102) dD_chain_102 trivial ?_
        exact H
      · have H := H.2 c4
        refine wq_iload_n (pc := 92) dD_chain_92 rfl rfl ?_
        refine wq_goto (pc := 93) (tgt := 102) dD_chain_93 (by decide) ?_
        refine wq_ireturn (pc := 102) dD_chain_102 trivial ?_
        exact H
    · have H := H.2 c3
      refine wq_iload_n (pc := 62) dD_chain_62 rfl rfl ?_
      refine wq_if_lt (pc := 63) (tgt := 88) dD_chain_63 (by decide) (fun c5 => ?_) (fun c5 => ?_)
      · have H := H.1 c5
        refine wq_iload_n (pc := 88) dD_chain_88 rfl rfl ?_
        refine wq_if_lt (pc := 89) (tgt := 96) dD_chain_89 (by decide) (fun c6 => ?_) (fun c6 => ?_)
        · have H := H.1 c6
          refine wq_aload_n (pc := 96) dD_chain_96 rfl rfl ?_
          refine wq_ldc (pc := 97) (z := (-1000002)) dD_chain_97 kO_D_125 (by decide) ?_
          refine wq_callV (d' := 2) (pc := 99) (as := [vI (-1000002)]) (rest := []) (lo' := [iR 0, iI ((-1000002)), none]) dD_chain_99 mO_D_finding lV_D_70 sh_0 (by decide) cl_10 rfl rfl rfl rfl rfl rfl ?_
          refine sp_D_finding (k := 2) (by decide) (by decide) (by decide) hS ?_
          show Wq 5 0 0 mD_chain 102 [iR 0, iI x1, iI x2, iI x3, iI x4] [vI (-1000002)] (sI M 69 2 (wr (gI M 69 2 + 1))) _
          refine wq_ireturn (pc := 102) dD_chain_102 trivial ?_
          exact H
        · have H := H.2 c6
          refine wq_iload_n (pc := 92) dD_chain_92 rfl rfl ?_
          refine wq_goto (pc := 93) (tgt := 102) dD_chain_93 (by decide) ?_
          refine wq_ireturn (pc := 102) dD_chain_102 trivial ?_
          exact H
      · have H := H.2 c5
        refine wq_aload_n (pc := 66) dD_chain_66 rfl rfl ?_
        refine wq_getR (pc := 67) (z := 2) (b := 59) dD_chain_67 fO_D_22 sh_0 rfl rfl (rf_0_2 hS) ?_
        refine wq_iload_n (pc := 70) dD_chain_70 rfl rfl ?_
        refine wq_aload_n (pc := 71) dD_chain_71 rfl rfl ?_
        refine wq_getR (pc := 72) (z := 0) (b := 1) dD_chain_72 fO_D_12 sh_0 rfl rfl (rf_0_0 hS) ?_
        refine wq_getR (pc := 75) (z := 1) (b := 5) dD_chain_75 fO_D_74 sh_1 rfl rfl (rf_1_1 hS) ?_
        refine wq_callV (d' := 3) (pc := 78) (as := [vI x3, vR 5]) (rest := []) (lo' := [iR 59, iI x3, iR 5, none, none]) dD_chain_78 mO_P_rulerOf lV_D_205 sh_59 (by decide) cl_4 rfl rfl rfl rfl rfl rfl ?_
        exact H

set_option maxRecDepth 20000 in
theorem B_D_chain_81 {x1 x2 x3 x4 y0 : Int} {M : Mm} {Q : Mm → Option Mv → Prop} (H : ((-2147483648 ≤ x4 + 1 ∧ x4 + 1 < 2147483648) ∧ Wq 5 0 0 mD_chain 49 [iR 0, iI x1, iI x2, iI y0, iI (x4 + 1)] [] M Q)) : Wq 5 0 0 mD_chain 81 [iR 0, iI x1, iI x2, iI x3, iI x4] [vI y0] M Q := by
  obtain ⟨s1, H⟩ := H
  refine wq_istore_n (pc := 81) (lo' := [iR 0, iI x1, iI x2, iI y0, iI x4]) dD_chain_81 rfl rfl rfl ?_
  refine wq_iinc (pc := 82) (lo' := [iR 0, iI x1, iI x2, iI y0, iI (x4 + 1)]) dD_chain_82 rfl rfl (by rw [show wr (x4 + 1) = x4 + 1 from (Eq.trans (wr_eq (by omega) (by omega)) (by omega))]; rfl) ?_
  refine wq_goto (pc := 85) (tgt := 49) dD_chain_85 (by decide) ?_
  exact H
set_option maxRecDepth 20000 in
theorem B_D_one_0 {x1 x2 : Int} {M : Mm} {Q : Mm → Option Mv → Prop} (hS : RefOK M) (H : ((0 ≤ x1 ∧ x1 < gI M 12 7 → ((0 ≤ x2 ∧ x2 ≤ 900 → Wq 1 0 0 mE_knownOn 0 [iR 12, iI x2, none, none] [] M (fun M' v => Wq 7 0 0 mD_one 39 [iR 0, iI x1, iI x2, none] (v.toList ++ []) M' Q)) ∧ (¬ (0 ≤ x2 ∧ x2 ≤ 900) → Q (sI M 69 1 (wr (gI M 69 1 + 1))) (some (vI (-1000001)))))) ∧ (¬ (0 ≤ x1 ∧ x1 < gI M 12 7) → Q (sI M 69 1 (wr (gI M 69 1 + 1))) (some (vI (-1000001)))))) : Wq 7 0 0 mD_one 0 [iR 0, iI x1, iI x2, none] [] M Q := by
  refine wq_aload_n (pc := 0) dD_one_0 rfl rfl ?_
  refine wq_getR (pc := 1) (z := 0) (b := 1) dD_one_1 fO_D_12 sh_0 rfl rfl (rf_0_0 hS) ?_
  refine wq_getR (pc := 4) (z := 2) (b := 12) dD_one_4 fO_D_148 sh_1 rfl rfl (rf_1_2 hS) ?_
  refine wq_iload_n (pc := 7) dD_one_7 rfl rfl ?_
  refine wq_callV (d' := 1) (pc := 8) (as := [vI x1]) (rest := []) (lo' := [iR 12, iI x1]) dD_one_8 mO_E_has lV_D_158 sh_12 (by decide) cl_2 rfl rfl rfl rfl rfl rfl ?_
  refine sp_E_has (fun c1 => ?_) (fun c1 => ?_)
  · have H := H.1 c1
    show Wq 7 0 0 mD_one 11 [iR 0, iI x1, iI x2, none] [vI 1] M _
    refine wq_if_eq (pc := 11) (tgt := 21) dD_one_11 (by decide) (fun q => absurd q (by decide)) (fun _ => ?_)
    refine wq_iload_n (pc := 14) dD_one_14 rfl rfl ?_
    refine wq_callS (d' := 2) (pc := 15) (as := [vI x2]) (rest := []) (lo' := [iI x2]) dD_one_15 mO_D_isDay lS_D_180 rfl rfl rfl rfl rfl rfl ?_
    refine sp_D_isDay (fun c2 => ?_) (fun c2 => ?_)
    · have H := H.1 c2
      show Wq 7 0 0 mD_one 18 [iR 0, iI x1, iI x2, none] [vI 1] M _
      refine wq_if_ne (pc := 18) (tgt := 28) dD_one_18 (by decide) (fun _ => ?_) (fun q => absurd q (by decide))
      refine wq_aload_n (pc := 28) dD_one_28 rfl rfl ?_
      refine wq_getR (pc := 29) (z := 0) (b := 1) dD_one_29 fO_D_12 sh_0 rfl rfl (rf_0_0 hS) ?_
      refine wq_getR (pc := 32) (z := 2) (b := 12) dD_one_32 fO_D_148 sh_1 rfl rfl (rf_1_2 hS) ?_
      refine wq_iload_n (pc := 35) dD_one_35 rfl rfl ?_
      refine wq_callV (d' := 1) (pc := 36) (as := [vI x2]) (rest := []) (lo' := [iR 12, iI x2, none, none]) dD_one_36 mO_E_knownOn lV_D_183 sh_12 (by decide) cl_2 rfl rfl rfl rfl rfl rfl ?_
      exact H
    · have H := H.2 c2
      show Wq 7 0 0 mD_one 18 [iR 0, iI x1, iI x2, none] [vI 0] M _
      refine wq_if_ne (pc := 18) (tgt := 28) dD_one_18 (by decide) (fun q => absurd q (by decide)) (fun _ => ?_)
      refine wq_aload_n (pc := 21) dD_one_21 rfl rfl ?_
      refine wq_ldc (pc := 22) (z := (-1000001)) dD_one_22 kO_D_69 (by decide) ?_
      refine wq_callV (d' := 2) (pc := 24) (as := [vI (-1000001)]) (rest := []) (lo' := [iR 0, iI ((-1000001)), none]) dD_one_24 mO_D_finding lV_D_70 sh_0 (by decide) cl_10 rfl rfl rfl rfl rfl rfl ?_
      refine sp_D_finding (k := 1) (by decide) (by decide) (by decide) hS ?_
      show Wq 7 0 0 mD_one 27 [iR 0, iI x1, iI x2, none] [vI (-1000001)] (sI M 69 1 (wr (gI M 69 1 + 1))) _
      refine wq_ireturn (pc := 27) dD_one_27 trivial ?_
      exact H
  · have H := H.2 c1
    show Wq 7 0 0 mD_one 11 [iR 0, iI x1, iI x2, none] [vI 0] M _
    refine wq_if_eq (pc := 11) (tgt := 21) dD_one_11 (by decide) (fun _ => ?_) (fun q => absurd (by decide) q)
    refine wq_aload_n (pc := 21) dD_one_21 rfl rfl ?_
    refine wq_ldc (pc := 22) (z := (-1000001)) dD_one_22 kO_D_69 (by decide) ?_
    refine wq_callV (d' := 2) (pc := 24) (as := [vI (-1000001)]) (rest := []) (lo' := [iR 0, iI ((-1000001)), none]) dD_one_24 mO_D_finding lV_D_70 sh_0 (by decide) cl_10 rfl rfl rfl rfl rfl rfl ?_
    refine sp_D_finding (k := 1) (by decide) (by decide) (by decide) hS ?_
    show Wq 7 0 0 mD_one 27 [iR 0, iI x1, iI x2, none] [vI (-1000001)] (sI M 69 1 (wr (gI M 69 1 + 1))) _
    refine wq_ireturn (pc := 27) dD_one_27 trivial ?_
    exact H

set_option maxRecDepth 20000 in
theorem B_D_one_39 {x1 x2 y0 : Int} {M : Mm} {Q : Mm → Option Mv → Prop} (hS : RefOK M) (H : ((0 ≤ y0 ∧ y0 < 2147483648 ∧ 0 ≤ x1 ∧ x1 < 32) ∧ ((hb y0 x1 = true → Wq 6 0 0 mD_addedBy 0 [iR 0, iI x1, iI y0, none] [] M (fun M' v => Wq 7 0 0 mD_one 54 [iR 0, iI x1, iI x2, iI y0] (v.toList ++ []) M' Q)) ∧ (¬ (hb y0 x1 = true) → Q (sI M 69 2 (wr (gI M 69 2 + 1))) (some (vI (-1000002))))))) : Wq 7 0 0 mD_one 39 [iR 0, iI x1, iI x2, none] [vI y0] M Q := by
  obtain ⟨s1, H⟩ := H
  refine wq_istore_n (pc := 39) (lo' := [iR 0, iI x1, iI x2, iI y0]) dD_one_39 rfl rfl rfl ?_
  refine wq_iload_n (pc := 40) dD_one_40 rfl rfl ?_
  refine wq_iload_n (pc := 41) dD_one_41 rfl rfl ?_
  refine wq_callS (d' := 1) (pc := 42) (as := [vI y0, vI x1]) (rest := []) (lo' := [iI y0, iI x1]) dD_one_42 mO_D_holds lS_D_209 rfl rfl rfl rfl rfl rfl ?_
  refine sp_D_holds s1 (fun c2 => ?_) (fun c2 => ?_)
  · have H := H.1 c2
    show Wq 7 0 0 mD_one 45 [iR 0, iI x1, iI x2, iI y0] [vI 1] M _
    refine wq_if_eq (pc := 45) (tgt := 57) dD_one_45 (by decide) (fun q => absurd q (by decide)) (fun _ => ?_)
    refine wq_aload_n (pc := 48) dD_one_48 rfl rfl ?_
    refine wq_iload_n (pc := 49) dD_one_49 rfl rfl ?_
    refine wq_iload_n (pc := 50) dD_one_50 rfl rfl ?_
    refine wq_callV (d' := 6) (pc := 51) (as := [vI x1, vI y0]) (rest := []) (lo' := [iR 0, iI x1, iI y0, none]) dD_one_51 mO_D_addedBy lV_D_212 sh_0 (by decide) cl_10 rfl rfl rfl rfl rfl rfl ?_
    exact H
  · have H := H.2 c2
    show Wq 7 0 0 mD_one 45 [iR 0, iI x1, iI x2, iI y0] [vI 0] M _
    refine wq_if_eq (pc := 45) (tgt := 57) dD_one_45 (by decide) (fun _ => ?_) (fun q => absurd (by decide) q)
    refine wq_aload_n (pc := 57) dD_one_57 rfl rfl ?_
    refine wq_ldc (pc := 58) (z := (-1000002)) dD_one_58 kO_D_125 (by decide) ?_
    refine wq_callV (d' := 2) (pc := 60) (as := [vI (-1000002)]) (rest := []) (lo' := [iR 0, iI ((-1000002)), none]) dD_one_60 mO_D_finding lV_D_70 sh_0 (by decide) cl_10 rfl rfl rfl rfl rfl rfl ?_
    refine sp_D_finding (k := 2) (by decide) (by decide) (by decide) hS ?_
    show Wq 7 0 0 mD_one 63 [iR 0, iI x1, iI x2, iI y0] [vI (-1000002)] (sI M 69 2 (wr (gI M 69 2 + 1))) _
    refine wq_ireturn (pc := 63) dD_one_63 trivial ?_
    exact H

set_option maxRecDepth 20000 in
theorem B_D_one_54 {x1 x2 x3 y0 : Int} {M : Mm} {Q : Mm → Option Mv → Prop} (H : Q M (some (vI y0))) : Wq 7 0 0 mD_one 54 [iR 0, iI x1, iI x2, iI x3] [vI y0] M Q := by
  refine wq_goto (pc := 54) (tgt := 63) dD_one_54 (by decide) ?_
  refine wq_ireturn (pc := 63) dD_one_63 trivial ?_
  exact H
set_option maxRecDepth 20000 in
theorem B_D_without_0 {x1 x2 : Int} {M : Mm} {Q : Mm → Option Mv → Prop} (hS : RefOK M) (H : ((0 ≤ x1 ∧ x1 < gI M 12 7 → ((0 ≤ x2 ∧ x2 ≤ 900 → Wq 1 0 0 mE_knownOn 0 [iR 12, iI x2, none, none] [] M (fun M' v => Wq 6 0 0 mD_without 39 [iR 0, iI x1, iI x2, none] (v.toList ++ []) M' Q)) ∧ (¬ (0 ≤ x2 ∧ x2 ≤ 900) → Q (sI M 69 1 (wr (gI M 69 1 + 1))) (some (vI (-1000001)))))) ∧ (¬ (0 ≤ x1 ∧ x1 < gI M 12 7) → Q (sI M 69 1 (wr (gI M 69 1 + 1))) (some (vI (-1000001)))))) : Wq 6 0 0 mD_without 0 [iR 0, iI x1, iI x2, none] [] M Q := by
  refine wq_aload_n (pc := 0) dD_without_0 rfl rfl ?_
  refine wq_getR (pc := 1) (z := 0) (b := 1) dD_without_1 fO_D_12 sh_0 rfl rfl (rf_0_0 hS) ?_
  refine wq_getR (pc := 4) (z := 2) (b := 12) dD_without_4 fO_D_148 sh_1 rfl rfl (rf_1_2 hS) ?_
  refine wq_iload_n (pc := 7) dD_without_7 rfl rfl ?_
  refine wq_callV (d' := 1) (pc := 8) (as := [vI x1]) (rest := []) (lo' := [iR 12, iI x1]) dD_without_8 mO_E_has lV_D_158 sh_12 (by decide) cl_2 rfl rfl rfl rfl rfl rfl ?_
  refine sp_E_has (fun c1 => ?_) (fun c1 => ?_)
  · have H := H.1 c1
    show Wq 6 0 0 mD_without 11 [iR 0, iI x1, iI x2, none] [vI 1] M _
    refine wq_if_eq (pc := 11) (tgt := 21) dD_without_11 (by decide) (fun q => absurd q (by decide)) (fun _ => ?_)
    refine wq_iload_n (pc := 14) dD_without_14 rfl rfl ?_
    refine wq_callS (d' := 2) (pc := 15) (as := [vI x2]) (rest := []) (lo' := [iI x2]) dD_without_15 mO_D_isDay lS_D_180 rfl rfl rfl rfl rfl rfl ?_
    refine sp_D_isDay (fun c2 => ?_) (fun c2 => ?_)
    · have H := H.1 c2
      show Wq 6 0 0 mD_without 18 [iR 0, iI x1, iI x2, none] [vI 1] M _
      refine wq_if_ne (pc := 18) (tgt := 28) dD_without_18 (by decide) (fun _ => ?_) (fun q => absurd q (by decide))
      refine wq_aload_n (pc := 28) dD_without_28 rfl rfl ?_
      refine wq_getR (pc := 29) (z := 0) (b := 1) dD_without_29 fO_D_12 sh_0 rfl rfl (rf_0_0 hS) ?_
      refine wq_getR (pc := 32) (z := 2) (b := 12) dD_without_32 fO_D_148 sh_1 rfl rfl (rf_1_2 hS) ?_
      refine wq_iload_n (pc := 35) dD_without_35 rfl rfl ?_
      refine wq_callV (d' := 1) (pc := 36) (as := [vI x2]) (rest := []) (lo' := [iR 12, iI x2, none, none]) dD_without_36 mO_E_knownOn lV_D_183 sh_12 (by decide) cl_2 rfl rfl rfl rfl rfl rfl ?_
      exact H
    · have H := H.2 c2
      show Wq 6 0 0 mD_without 18 [iR 0, iI x1, iI x2, none] [vI 0] M _
      refine wq_if_ne (pc := 18) (tgt := 28) dD_without_18 (by decide) (fun q => absurd q (by decide)) (fun _ => ?_)
      refine wq_aload_n (pc := 21) dD_without_21 rfl rfl ?_
      refine wq_ldc (pc := 22) (z := (-1000001)) dD_without_22 kO_D_69 (by decide) ?_
      refine wq_callV (d' := 2) (pc := 24) (as := [vI (-1000001)]) (rest := []) (lo' := [iR 0, iI ((-1000001)), none]) dD_without_24 mO_D_finding lV_D_70 sh_0 (by decide) cl_10 rfl rfl rfl rfl rfl rfl ?_
      refine sp_D_finding (k := 1) (by decide) (by decide) (by decide) hS ?_
      show Wq 6 0 0 mD_without 27 [iR 0, iI x1, iI x2, none] [vI (-1000001)] (sI M 69 1 (wr (gI M 69 1 + 1))) _
      refine wq_ireturn (pc := 27) dD_without_27 trivial ?_
      exact H
  · have H := H.2 c1
    show Wq 6 0 0 mD_without 11 [iR 0, iI x1, iI x2, none] [vI 0] M _
    refine wq_if_eq (pc := 11) (tgt := 21) dD_without_11 (by decide) (fun _ => ?_) (fun q => absurd (by decide) q)
    refine wq_aload_n (pc := 21) dD_without_21 rfl rfl ?_
    refine wq_ldc (pc := 22) (z := (-1000001)) dD_without_22 kO_D_69 (by decide) ?_
    refine wq_callV (d' := 2) (pc := 24) (as := [vI (-1000001)]) (rest := []) (lo' := [iR 0, iI ((-1000001)), none]) dD_without_24 mO_D_finding lV_D_70 sh_0 (by decide) cl_10 rfl rfl rfl rfl rfl rfl ?_
    refine sp_D_finding (k := 1) (by decide) (by decide) (by decide) hS ?_
    show Wq 6 0 0 mD_without 27 [iR 0, iI x1, iI x2, none] [vI (-1000001)] (sI M 69 1 (wr (gI M 69 1 + 1))) _
    refine wq_ireturn (pc := 27) dD_without_27 trivial ?_
    exact H

set_option maxRecDepth 20000 in
theorem B_D_without_39 {x1 x2 y0 : Int} {M : Mm} {Q : Mm → Option Mv → Prop} (hS : RefOK M) (H : ((0 ≤ y0 ∧ y0 < 2147483648 ∧ 0 ≤ x1 ∧ x1 < 32) ∧ ((hb y0 x1 = true → Wq 5 0 0 mD_lostBy 0 [iR 0, iI y0, iI (bShl 1 x1)] [] M (fun M' v => Wq 6 0 0 mD_without 56 [iR 0, iI x1, iI x2, iI y0] (v.toList ++ []) M' Q)) ∧ (¬ (hb y0 x1 = true) → Q (sI M 69 2 (wr (gI M 69 2 + 1))) (some (vI (-1000002))))))) : Wq 6 0 0 mD_without 39 [iR 0, iI x1, iI x2, none] [vI y0] M Q := by
  obtain ⟨s1, H⟩ := H
  refine wq_istore_n (pc := 39) (lo' := [iR 0, iI x1, iI x2, iI y0]) dD_without_39 rfl rfl rfl ?_
  refine wq_iload_n (pc := 40) dD_without_40 rfl rfl ?_
  refine wq_iload_n (pc := 41) dD_without_41 rfl rfl ?_
  refine wq_callS (d' := 1) (pc := 42) (as := [vI y0, vI x1]) (rest := []) (lo' := [iI y0, iI x1]) dD_without_42 mO_D_holds lS_D_209 rfl rfl rfl rfl rfl rfl ?_
  refine sp_D_holds s1 (fun c2 => ?_) (fun c2 => ?_)
  · have H := H.1 c2
    show Wq 6 0 0 mD_without 45 [iR 0, iI x1, iI x2, iI y0] [vI 1] M _
    refine wq_if_eq (pc := 45) (tgt := 59) dD_without_45 (by decide) (fun q => absurd q (by decide)) (fun _ => ?_)
    refine wq_aload_n (pc := 48) dD_without_48 rfl rfl ?_
    refine wq_iload_n (pc := 49) dD_without_49 rfl rfl ?_
    refine wq_iconst (pc := 50) dD_without_50 rfl ?_
    refine wq_iload_n (pc := 51) dD_without_51 rfl rfl ?_
    refine wq_ishl (pc := 52) dD_without_52 ?_
    refine wq_callV (d' := 5) (pc := 53) (as := [vI y0, vI (bShl 1 x1)]) (rest := []) (lo' := [iR 0, iI y0, iI (bShl 1 x1)]) dD_without_53 mO_D_lostBy lV_D_215 sh_0 (by decide) cl_10 rfl rfl rfl rfl rfl rfl ?_
    exact H
  · have H := H.2 c2
    show Wq 6 0 0 mD_without 45 [iR 0, iI x1, iI x2, iI y0] [vI 0] M _
    refine wq_if_eq (pc := 45) (tgt := 59) dD_without_45 (by decide) (fun _ => ?_) (fun q => absurd (by decide) q)
    refine wq_aload_n (pc := 59) dD_without_59 rfl rfl ?_
    refine wq_ldc (pc := 60) (z := (-1000002)) dD_without_60 kO_D_125 (by decide) ?_
    refine wq_callV (d' := 2) (pc := 62) (as := [vI (-1000002)]) (rest := []) (lo' := [iR 0, iI ((-1000002)), none]) dD_without_62 mO_D_finding lV_D_70 sh_0 (by decide) cl_10 rfl rfl rfl rfl rfl rfl ?_
    refine sp_D_finding (k := 2) (by decide) (by decide) (by decide) hS ?_
    show Wq 6 0 0 mD_without 65 [iR 0, iI x1, iI x2, iI y0] [vI (-1000002)] (sI M 69 2 (wr (gI M 69 2 + 1))) _
    refine wq_ireturn (pc := 65) dD_without_65 trivial ?_
    exact H

set_option maxRecDepth 20000 in
theorem B_D_without_56 {x1 x2 x3 y0 : Int} {M : Mm} {Q : Mm → Option Mv → Prop} (H : Q M (some (vI y0))) : Wq 6 0 0 mD_without 56 [iR 0, iI x1, iI x2, iI x3] [vI y0] M Q := by
  refine wq_goto (pc := 56) (tgt := 65) dD_without_56 (by decide) ?_
  refine wq_ireturn (pc := 65) dD_without_65 trivial ?_
  exact H
set_option maxRecDepth 20000 in
theorem B_D_butFor_0 {x1 x2 : Int} {M : Mm} {Q : Mm → Option Mv → Prop} (hS : RefOK M) (H : ((0 ≤ x1 ∧ x1 ≤ 3 → ((0 ≤ x2 ∧ x2 ≤ 900 → Wq 1 0 0 mE_knownOn 0 [iR 12, iI x2, none, none] [] M (fun M' v => Wq 6 0 0 mD_butFor 32 [iR 0, iI x1, iI x2, none] (v.toList ++ []) M' Q)) ∧ (¬ (0 ≤ x2 ∧ x2 ≤ 900) → Q (sI M 69 1 (wr (gI M 69 1 + 1))) (some (vI (-1000001)))))) ∧ (¬ (0 ≤ x1 ∧ x1 ≤ 3) → Q (sI M 69 1 (wr (gI M 69 1 + 1))) (some (vI (-1000001)))))) : Wq 6 0 0 mD_butFor 0 [iR 0, iI x1, iI x2, none] [] M Q := by
  refine wq_iload_n (pc := 0) dD_butFor_0 rfl rfl ?_
  refine wq_callS (d' := 2) (pc := 1) (as := [vI x1]) (rest := []) (lo' := [iI x1]) dD_butFor_1 mO_D_isCause lS_D_145 rfl rfl rfl rfl rfl rfl ?_
  refine sp_D_isCause (fun c1 => ?_) (fun c1 => ?_)
  · have H := H.1 c1
    show Wq 6 0 0 mD_butFor 4 [iR 0, iI x1, iI x2, none] [vI 1] M _
    refine wq_if_eq (pc := 4) (tgt := 14) dD_butFor_4 (by decide) (fun q => absurd q (by decide)) (fun _ => ?_)
    refine wq_iload_n (pc := 7) dD_butFor_7 rfl rfl ?_
    refine wq_callS (d' := 2) (pc := 8) (as := [vI x2]) (rest := []) (lo' := [iI x2]) dD_butFor_8 mO_D_isDay lS_D_180 rfl rfl rfl rfl rfl rfl ?_
    refine sp_D_isDay (fun c2 => ?_) (fun c2 => ?_)
    · have H := H.1 c2
      show Wq 6 0 0 mD_butFor 11 [iR 0, iI x1, iI x2, none] [vI 1] M _
      refine wq_if_ne (pc := 11) (tgt := 21) dD_butFor_11 (by decide) (fun _ => ?_) (fun q => absurd q (by decide))
      refine wq_aload_n (pc := 21) dD_butFor_21 rfl rfl ?_
      refine wq_getR (pc := 22) (z := 0) (b := 1) dD_butFor_22 fO_D_12 sh_0 rfl rfl (rf_0_0 hS) ?_
      refine wq_getR (pc := 25) (z := 2) (b := 12) dD_butFor_25 fO_D_148 sh_1 rfl rfl (rf_1_2 hS) ?_
      refine wq_iload_n (pc := 28) dD_butFor_28 rfl rfl ?_
      refine wq_callV (d' := 1) (pc := 29) (as := [vI x2]) (rest := []) (lo' := [iR 12, iI x2, none, none]) dD_butFor_29 mO_E_knownOn lV_D_183 sh_12 (by decide) cl_2 rfl rfl rfl rfl rfl rfl ?_
      exact H
    · have H := H.2 c2
      show Wq 6 0 0 mD_butFor 11 [iR 0, iI x1, iI x2, none] [vI 0] M _
      refine wq_if_ne (pc := 11) (tgt := 21) dD_butFor_11 (by decide) (fun q => absurd q (by decide)) (fun _ => ?_)
      refine wq_aload_n (pc := 14) dD_butFor_14 rfl rfl ?_
      refine wq_ldc (pc := 15) (z := (-1000001)) dD_butFor_15 kO_D_69 (by decide) ?_
      refine wq_callV (d' := 2) (pc := 17) (as := [vI (-1000001)]) (rest := []) (lo' := [iR 0, iI ((-1000001)), none]) dD_butFor_17 mO_D_finding lV_D_70 sh_0 (by decide) cl_10 rfl rfl rfl rfl rfl rfl ?_
      refine sp_D_finding (k := 1) (by decide) (by decide) (by decide) hS ?_
      show Wq 6 0 0 mD_butFor 20 [iR 0, iI x1, iI x2, none] [vI (-1000001)] (sI M 69 1 (wr (gI M 69 1 + 1))) _
      refine wq_ireturn (pc := 20) dD_butFor_20 trivial ?_
      exact H
  · have H := H.2 c1
    show Wq 6 0 0 mD_butFor 4 [iR 0, iI x1, iI x2, none] [vI 0] M _
    refine wq_if_eq (pc := 4) (tgt := 14) dD_butFor_4 (by decide) (fun _ => ?_) (fun q => absurd (by decide) q)
    refine wq_aload_n (pc := 14) dD_butFor_14 rfl rfl ?_
    refine wq_ldc (pc := 15) (z := (-1000001)) dD_butFor_15 kO_D_69 (by decide) ?_
    refine wq_callV (d' := 2) (pc := 17) (as := [vI (-1000001)]) (rest := []) (lo' := [iR 0, iI ((-1000001)), none]) dD_butFor_17 mO_D_finding lV_D_70 sh_0 (by decide) cl_10 rfl rfl rfl rfl rfl rfl ?_
    refine sp_D_finding (k := 1) (by decide) (by decide) (by decide) hS ?_
    show Wq 6 0 0 mD_butFor 20 [iR 0, iI x1, iI x2, none] [vI (-1000001)] (sI M 69 1 (wr (gI M 69 1 + 1))) _
    refine wq_ireturn (pc := 20) dD_butFor_20 trivial ?_
    exact H

set_option maxRecDepth 20000 in
theorem B_D_butFor_32 {x1 x2 y0 : Int} {M : Mm} {Q : Mm → Option Mv → Prop} (hS : RefOK M) (H : Wq 2 0 0 mE_ofCause 0 [iR 12, iI y0, iI x1, none, none] [] M (fun M' v => Wq 6 0 0 mD_butFor 47 [iR 0, iI x1, iI x2, iI y0] (v.toList ++ [vI y0, vR 0]) M' Q)) : Wq 6 0 0 mD_butFor 32 [iR 0, iI x1, iI x2, none] [vI y0] M Q := by
  refine wq_istore_n (pc := 32) (lo' := [iR 0, iI x1, iI x2, iI y0]) dD_butFor_32 rfl rfl rfl ?_
  refine wq_aload_n (pc := 33) dD_butFor_33 rfl rfl ?_
  refine wq_iload_n (pc := 34) dD_butFor_34 rfl rfl ?_
  refine wq_aload_n (pc := 35) dD_butFor_35 rfl rfl ?_
  refine wq_getR (pc := 36) (z := 0) (b := 1) dD_butFor_36 fO_D_12 sh_0 rfl rfl (rf_0_0 hS) ?_
  refine wq_getR (pc := 39) (z := 2) (b := 12) dD_butFor_39 fO_D_148 sh_1 rfl rfl (rf_1_2 hS) ?_
  refine wq_iload_n (pc := 42) dD_butFor_42 rfl rfl ?_
  refine wq_iload_n (pc := 43) dD_butFor_43 rfl rfl ?_
  refine wq_callV (d' := 2) (pc := 44) (as := [vI y0, vI x1]) (rest := [vI y0, vR 0]) (lo' := [iR 12, iI y0, iI x1, none, none]) dD_butFor_44 mO_E_ofCause lV_D_218 sh_12 (by decide) cl_2 rfl rfl rfl rfl rfl rfl ?_
  exact H

set_option maxRecDepth 20000 in
theorem B_D_butFor_47 {x1 x2 x3 y0 y1 : Int} {M : Mm} {Q : Mm → Option Mv → Prop} (H : Wq 5 0 0 mD_lostBy 0 [iR 0, iI y1, iI y0] [] M (fun M' v => Wq 6 0 0 mD_butFor 50 [iR 0, iI x1, iI x2, iI x3] (v.toList ++ []) M' Q)) : Wq 6 0 0 mD_butFor 47 [iR 0, iI x1, iI x2, iI x3] [vI y0, vI y1, vR 0] M Q := by
  refine wq_callV (d' := 5) (pc := 47) (as := [vI y1, vI y0]) (rest := []) (lo' := [iR 0, iI y1, iI y0]) dD_butFor_47 mO_D_lostBy lV_D_215 sh_0 (by decide) cl_10 rfl rfl rfl rfl rfl rfl ?_
  exact H

set_option maxRecDepth 20000 in
theorem B_D_butFor_50 {x1 x2 x3 y0 : Int} {M : Mm} {Q : Mm → Option Mv → Prop} (H : Q M (some (vI y0))) : Wq 6 0 0 mD_butFor 50 [iR 0, iI x1, iI x2, iI x3] [vI y0] M Q := by
  refine wq_ireturn (pc := 50) dD_butFor_50 trivial ?_
  exact H
set_option maxRecDepth 20000 in
theorem B_D_window_0 {x1 x2 x3 x4 : Int} {M : Mm} {Q : Mm → Option Mv → Prop} (hS : RefOK M) (H : ((5 ≤ x1 ∧ x1 ≤ 100 → ((0 ≤ x2 ∧ x2 ≤ 179 → (((-1) ≤ x3 ∧ x3 ≤ 3 → ((0 ≤ x4 ∧ x4 ≤ 900 → Wq 1 0 0 mE_knownOn 0 [iR 12, iI x4, none, none] [] M (fun M' v => Wq 6 0 0 mD_window 69 [iR 0, iI x1, iI x2, iI x3, iI x4, iI 1, none, none, none, none] (v.toList ++ []) M' Q)) ∧ (¬ (0 ≤ x4 ∧ x4 ≤ 900) → Q (sI M 69 1 (wr (gI M 69 1 + 1))) (some (vI (-1000001)))))) ∧ (¬ ((-1) ≤ x3 ∧ x3 ≤ 3) → Q (sI M 69 1 (wr (gI M 69 1 + 1))) (some (vI (-1000001)))))) ∧ (¬ (0 ≤ x2 ∧ x2 ≤ 179) → Q (sI M 69 1 (wr (gI M 69 1 + 1))) (some (vI (-1000001)))))) ∧ (¬ (5 ≤ x1 ∧ x1 ≤ 100) → Q (sI M 69 1 (wr (gI M 69 1 + 1))) (some (vI (-1000001)))))) : Wq 6 0 0 mD_window 0 [iR 0, iI x1, iI x2, iI x3, iI x4, none, none, none, none, none] [] M Q := by
  refine wq_iload_n (pc := 0) dD_window_0 rfl rfl ?_
  refine wq_iconst (pc := 1) dD_window_1 rfl ?_
  refine wq_bipush (pc := 2) dD_window_2 rfl ?_
  refine wq_callS (d' := 1) (pc := 4) (as := [vI x1, vI 5, vI 100]) (rest := []) (lo' := [iI x1, iI 5, iI 100]) dD_window_4 mO_D_within lS_D_65 rfl rfl rfl rfl rfl rfl ?_
  refine sp_D_within (fun c1 => ?_) (fun c1 => ?_)
  · have H := H.1 c1
    show Wq 6 0 0 mD_window 7 [iR 0, iI x1, iI x2, iI x3, iI x4, none, none, none, none, none] [vI 1] M _
    refine wq_if_eq (pc := 7) (tgt := 25) dD_window_7 (by decide) (fun q => absurd q (by decide)) (fun _ => ?_)
    refine wq_iload_n (pc := 10) dD_window_10 rfl rfl ?_
    refine wq_iconst (pc := 11) dD_window_11 rfl ?_
    refine wq_sipush (pc := 12) dD_window_12 rfl ?_
    refine wq_callS (d' := 1) (pc := 15) (as := [vI x2, vI 0, vI 179]) (rest := []) (lo' := [iI x2, iI 0, iI 179]) dD_window_15 mO_D_within lS_D_65 rfl rfl rfl rfl rfl rfl ?_
    refine sp_D_within (fun c2 => ?_) (fun c2 => ?_)
    · have H := H.1 c2
      show Wq 6 0 0 mD_window 18 [iR 0, iI x1, iI x2, iI x3, iI x4, none, none, none, none, none] [vI 1] M _
      refine wq_if_eq (pc := 18) (tgt := 25) dD_window_18 (by decide) (fun q => absurd q (by decide)) (fun _ => ?_)
      refine wq_iconst (pc := 21) dD_window_21 rfl ?_
      refine wq_goto (pc := 22) (tgt := 26) dD_window_22 (by decide) ?_
      refine wq_istore (pc := 26) (lo' := [iR 0, iI x1, iI x2, iI x3, iI x4, iI 1, none, none, none, none]) dD_window_26 rfl rfl ?_
      refine wq_iload (pc := 28) dD_window_28 rfl ?_
      refine wq_if_eq (pc := 30) (tgt := 50) dD_window_30 (by decide) (fun q => absurd q (by decide)) (fun _ => ?_)
      refine wq_iload_n (pc := 33) dD_window_33 rfl rfl ?_
      refine wq_iconst (pc := 34) dD_window_34 rfl ?_
      refine wq_iconst (pc := 35) dD_window_35 rfl ?_
      refine wq_callS (d' := 1) (pc := 36) (as := [vI x3, vI (-1), vI 3]) (rest := []) (lo' := [iI x3, iI ((-1)), iI 3]) dD_window_36 mO_D_within lS_D_65 rfl rfl rfl rfl rfl rfl ?_
      refine sp_D_within (fun c3 => ?_) (fun c3 => ?_)
      · have H := H.1 c3
        show Wq 6 0 0 mD_window 39 [iR 0, iI x1, iI x2, iI x3, iI x4, iI 1, none, none, none, none] [vI 1] M _
        refine wq_if_eq (pc := 39) (tgt := 50) dD_window_39 (by decide) (fun q => absurd q (by decide)) (fun _ => ?_)
        refine wq_iload (pc := 42) dD_window_42 rfl ?_
        refine wq_callS (d' := 2) (pc := 44) (as := [vI x4]) (rest := []) (lo' := [iI x4]) dD_window_44 mO_D_isDay lS_D_180 rfl rfl rfl rfl rfl rfl ?_
        refine sp_D_isDay (fun c4 => ?_) (fun c4 => ?_)
        · have H := H.1 c4
          show Wq 6 0 0 mD_window 47 [iR 0, iI x1, iI x2, iI x3, iI x4, iI 1, none, none, none, none] [vI 1] M _
          refine wq_if_ne (pc := 47) (tgt := 57) dD_window_47 (by decide) (fun _ => ?_) (fun q => absurd q (by decide))
          refine wq_aload_n (pc := 57) dD_window_57 rfl rfl ?_
          refine wq_getR (pc := 58) (z := 0) (b := 1) dD_window_58 fO_D_12 sh_0 rfl rfl (rf_0_0 hS) ?_
          refine wq_getR (pc := 61) (z := 2) (b := 12) dD_window_61 fO_D_148 sh_1 rfl rfl (rf_1_2 hS) ?_
          refine wq_iload (pc := 64) dD_window_64 rfl ?_
          refine wq_callV (d' := 1) (pc := 66) (as := [vI x4]) (rest := []) (lo' := [iR 12, iI x4, none, none]) dD_window_66 mO_E_knownOn lV_D_183 sh_12 (by decide) cl_2 rfl rfl rfl rfl rfl rfl ?_
          exact H
        · have H := H.2 c4
          show Wq 6 0 0 mD_window 47 [iR 0, iI x1, iI x2, iI x3, iI x4, iI 1, none, none, none, none] [vI 0] M _
          refine wq_if_ne (pc := 47) (tgt := 57) dD_window_47 (by decide) (fun q => absurd q (by decide)) (fun _ => ?_)
          refine wq_aload_n (pc := 50) dD_window_50 rfl rfl ?_
          refine wq_ldc (pc := 51) (z := (-1000001)) dD_window_51 kO_D_69 (by decide) ?_
          refine wq_callV (d' := 2) (pc := 53) (as := [vI (-1000001)]) (rest := []) (lo' := [iR 0, iI ((-1000001)), none]) dD_window_53 mO_D_finding lV_D_70 sh_0 (by decide) cl_10 rfl rfl rfl rfl rfl rfl ?_
          refine sp_D_finding (k := 1) (by decide) (by decide) (by decide) hS ?_
          show Wq 6 0 0 mD_window 56 [iR 0, iI x1, iI x2, iI x3, iI x4, iI 1, none, none, none, none] [vI (-1000001)] (sI M 69 1 (wr (gI M 69 1 + 1))) _
          refine wq_ireturn (pc := 56) dD_window_56 trivial ?_
          exact H
      · have H := H.2 c3
        show Wq 6 0 0 mD_window 39 [iR 0, iI x1, iI x2, iI x3, iI x4, iI 1, none, none, none, none] [vI 0] M _
        refine wq_if_eq (pc := 39) (tgt := 50) dD_window_39 (by decide) (fun _ => ?_) (fun q => absurd (by decide) q)
        refine wq_aload_n (pc := 50) dD_window_50 rfl rfl ?_
        refine wq_ldc (pc := 51) (z := (-1000001)) dD_window_51 kO_D_69 (by decide) ?_
        refine wq_callV (d' := 2) (pc := 53) (as := [vI (-1000001)]) (rest := []) (lo' := [iR 0, iI ((-1000001)), none]) dD_window_53 mO_D_finding lV_D_70 sh_0 (by decide) cl_10 rfl rfl rfl rfl rfl rfl ?_
        refine sp_D_finding (k := 1) (by decide) (by decide) (by decide) hS ?_
        show Wq 6 0 0 mD_window 56 [iR 0, iI x1, iI x2, iI x3, iI x4, iI 1, none, none, none, none] [vI (-1000001)] (sI M 69 1 (wr (gI M 69 1 + 1))) _
        refine wq_ireturn (pc := 56) dD_window_56 trivial ?_
        exact H
    · have H := H.2 c2
      show Wq 6 0 0 mD_window 18 [iR 0, iI x1, iI x2, iI x3, iI x4, none, none, none, none, none] [vI 0] M _
      refine wq_if_eq (pc := 18) (tgt := 25) dD_window_18 (by decide) (fun _ => ?_) (fun q => absurd (by decide) q)
      refine wq_iconst (pc := 25) dD_window_25 rfl ?_
      refine wq_istore (pc := 26) (lo' := [iR 0, iI x1, iI x2, iI x3, iI x4, iI 0, none, none, none, none]) dD_window_26 rfl rfl ?_
      refine wq_iload (pc := 28) dD_window_28 rfl ?_
      refine wq_if_eq (pc := 30) (tgt := 50) dD_window_30 (by decide) (fun _ => ?_) (fun q => absurd (by decide) q)
      refine wq_aload_n (pc := 50) dD_window_50 rfl rfl ?_
      refine wq_ldc (pc := 51) (z := (-1000001)) dD_window_51 kO_D_69 (by decide) ?_
      refine wq_callV (d' := 2) (pc := 53) (as := [vI (-1000001)]) (rest := []) (lo' := [iR 0, iI ((-1000001)), none]) dD_window_53 mO_D_finding lV_D_70 sh_0 (by decide) cl_10 rfl rfl rfl rfl rfl rfl ?_
      refine sp_D_finding (k := 1) (by decide) (by decide) (by decide) hS ?_
      show Wq 6 0 0 mD_window 56 [iR 0, iI x1, iI x2, iI x3, iI x4, iI 0, none, none, none, none] [vI (-1000001)] (sI M 69 1 (wr (gI M 69 1 + 1))) _
      refine wq_ireturn (pc := 56) dD_window_56 trivial ?_
      exact H
  · have H := H.2 c1
    show Wq 6 0 0 mD_window 7 [iR 0, iI x1, iI x2, iI x3, iI x4, none, none, none, none, none] [vI 0] M _
    refine wq_if_eq (pc := 7) (tgt := 25) dD_window_7 (by decide) (fun _ => ?_) (fun q => absurd (by decide) q)
    refine wq_iconst (pc := 25) dD_window_25 rfl ?_
    refine wq_istore (pc := 26) (lo' := [iR 0, iI x1, iI x2, iI x3, iI x4, iI 0, none, none, none, none]) dD_window_26 rfl rfl ?_
    refine wq_iload (pc := 28) dD_window_28 rfl ?_
    refine wq_if_eq (pc := 30) (tgt := 50) dD_window_30 (by decide) (fun _ => ?_) (fun q => absurd (by decide) q)
    refine wq_aload_n (pc := 50) dD_window_50 rfl rfl ?_
    refine wq_ldc (pc := 51) (z := (-1000001)) dD_window_51 kO_D_69 (by decide) ?_
    refine wq_callV (d' := 2) (pc := 53) (as := [vI (-1000001)]) (rest := []) (lo' := [iR 0, iI ((-1000001)), none]) dD_window_53 mO_D_finding lV_D_70 sh_0 (by decide) cl_10 rfl rfl rfl rfl rfl rfl ?_
    refine sp_D_finding (k := 1) (by decide) (by decide) (by decide) hS ?_
    show Wq 6 0 0 mD_window 56 [iR 0, iI x1, iI x2, iI x3, iI x4, iI 0, none, none, none, none] [vI (-1000001)] (sI M 69 1 (wr (gI M 69 1 + 1))) _
    refine wq_ireturn (pc := 56) dD_window_56 trivial ?_
    exact H

set_option maxRecDepth 20000 in
theorem B_D_window_69 {x1 x2 x3 x4 x5 y0 : Int} {M : Mm} {Q : Mm → Option Mv → Prop} (hS : RefOK M) (H : ((-2147483648 ≤ x2 * x1 + x1 - 1 ∧ x2 * x1 + x1 - 1 < 2147483648) ∧ Wq 2 0 0 mE_upTo 0 [iR 12, iI y0, iI (x2 * x1 + x1 - 1), none, none] [] M (fun M' v => Wq 6 0 0 mD_window 90 [iR 0, iI x1, iI x2, iI x3, iI x4, iI x5, iI y0, none, none, none] (v.toList ++ []) M' Q))) : Wq 6 0 0 mD_window 69 [iR 0, iI x1, iI x2, iI x3, iI x4, iI x5, none, none, none, none] [vI y0] M Q := by
  obtain ⟨s1, H⟩ := H
  refine wq_istore (pc := 69) (lo' := [iR 0, iI x1, iI x2, iI x3, iI x4, iI x5, iI y0, none, none, none]) dD_window_69 rfl rfl ?_
  refine wq_aload_n (pc := 71) dD_window_71 rfl rfl ?_
  refine wq_getR (pc := 72) (z := 0) (b := 1) dD_window_72 fO_D_12 sh_0 rfl rfl (rf_0_0 hS) ?_
  refine wq_getR (pc := 75) (z := 2) (b := 12) dD_window_75 fO_D_148 sh_1 rfl rfl (rf_1_2 hS) ?_
  refine wq_iload (pc := 78) dD_window_78 rfl ?_
  refine wq_iload_n (pc := 80) dD_window_80 rfl rfl ?_
  refine wq_iload_n (pc := 81) dD_window_81 rfl rfl ?_
  refine wq_imul (pc := 82) dD_window_82 ?_
  refine wq_iload_n (pc := 83) dD_window_83 rfl rfl ?_
  refine wq_iadd (pc := 84) dD_window_84 ?_
  refine wq_iconst (pc := 85) dD_window_85 rfl ?_
  refine wq_isub (pc := 86) dD_window_86 ?_
  refine wq_re (x := (wr (wr (wr (x2 * x1) + x1) - 1))) (y := (x2 * x1 + x1 - 1)) (by (try simp only [wr_al, wr_ar, wr_sl, wr_sr, wr_ml, wr_mr, wr_nn, wr_ww]); exact Eq.trans (wr_eq (by omega) (by omega)) (by omega)) ?_
  refine wq_callV (d' := 2) (pc := 87) (as := [vI y0, vI (x2 * x1 + x1 - 1)]) (rest := []) (lo' := [iR 12, iI y0, iI (x2 * x1 + x1 - 1), none, none]) dD_window_87 mO_E_upTo lV_D_221 sh_12 (by decide) cl_2 rfl rfl rfl rfl rfl rfl ?_
  exact H

set_option maxRecDepth 20000 in
theorem B_D_window_90 {x1 x2 x3 x4 x5 x6 y0 : Int} {M : Mm} {Q : Mm → Option Mv → Prop} (hS : RefOK M) (H : ((-2147483648 ≤ x2 * x1 - 1 ∧ x2 * x1 - 1 < 2147483648) ∧ Wq 2 0 0 mE_upTo 0 [iR 12, iI x6, iI (x2 * x1 - 1), none, none] [] M (fun M' v => Wq 6 0 0 mD_window 111 [iR 0, iI x1, iI x2, iI x3, iI x4, iI x5, iI x6, iI y0, none, none] (v.toList ++ [vI y0]) M' Q))) : Wq 6 0 0 mD_window 90 [iR 0, iI x1, iI x2, iI x3, iI x4, iI x5, iI x6, none, none, none] [vI y0] M Q := by
  obtain ⟨s1, H⟩ := H
  refine wq_istore (pc := 90) (lo' := [iR 0, iI x1, iI x2, iI x3, iI x4, iI x5, iI x6, iI y0, none, none]) dD_window_90 rfl rfl ?_
  refine wq_iload (pc := 92) dD_window_92 rfl ?_
  refine wq_aload_n (pc := 94) dD_window_94 rfl rfl ?_
  refine wq_getR (pc := 95) (z := 0) (b := 1) dD_window_95 fO_D_12 sh_0 rfl rfl (rf_0_0 hS) ?_
  refine wq_getR (pc := 98) (z := 2) (b := 12) dD_window_98 fO_D_148 sh_1 rfl rfl (rf_1_2 hS) ?_
  refine wq_iload (pc := 101) dD_window_101 rfl ?_
  refine wq_iload_n (pc := 103) dD_window_103 rfl rfl ?_
  refine wq_iload_n (pc := 104) dD_window_104 rfl rfl ?_
  refine wq_imul (pc := 105) dD_window_105 ?_
  refine wq_iconst (pc := 106) dD_window_106 rfl ?_
  refine wq_isub (pc := 107) dD_window_107 ?_
  refine wq_re (x := (wr (wr (x2 * x1) - 1))) (y := (x2 * x1 - 1)) (by (try simp only [wr_al, wr_ar, wr_sl, wr_sr, wr_ml, wr_mr, wr_nn, wr_ww]); exact Eq.trans (wr_eq (by omega) (by omega)) (by omega)) ?_
  refine wq_callV (d' := 2) (pc := 108) (as := [vI x6, vI (x2 * x1 - 1)]) (rest := [vI y0]) (lo' := [iR 12, iI x6, iI (x2 * x1 - 1), none, none]) dD_window_108 mO_E_upTo lV_D_221 sh_12 (by decide) cl_2 rfl rfl rfl rfl rfl rfl ?_
  exact H

set_option maxRecDepth 20000 in
theorem B_D_window_111 {x1 x2 x3 x4 x5 x6 x7 y0 y1 : Int} {M : Mm} {Q : Mm → Option Mv → Prop} (H : Wq 5 0 0 mD_lostBy 0 [iR 0, iI x7, iI (bAnd y1 (bXor y0 (-1)))] [] M (fun M' v => Wq 6 0 0 mD_window 124 [iR 0, iI x1, iI x2, iI x3, iI x4, iI x5, iI x6, iI x7, iI (bAnd y1 (bXor y0 (-1))), none] (v.toList ++ []) M' Q)) : Wq 6 0 0 mD_window 111 [iR 0, iI x1, iI x2, iI x3, iI x4, iI x5, iI x6, iI x7, none, none] [vI y0, vI y1] M Q := by
  refine wq_iconst (pc := 111) dD_window_111 rfl ?_
  refine wq_ixor (pc := 112) dD_window_112 ?_
  refine wq_iand (pc := 113) dD_window_113 ?_
  refine wq_istore (pc := 114) (lo' := [iR 0, iI x1, iI x2, iI x3, iI x4, iI x5, iI x6, iI x7, iI (bAnd y1 (bXor y0 (-1))), none]) dD_window_114 rfl rfl ?_
  refine wq_aload_n (pc := 116) dD_window_116 rfl rfl ?_
  refine wq_iload (pc := 117) dD_window_117 rfl ?_
  refine wq_iload (pc := 119) dD_window_119 rfl ?_
  refine wq_callV (d' := 5) (pc := 121) (as := [vI x7, vI (bAnd y1 (bXor y0 (-1)))]) (rest := []) (lo' := [iR 0, iI x7, iI (bAnd y1 (bXor y0 (-1)))]) dD_window_121 mO_D_lostBy lV_D_215 sh_0 (by decide) cl_10 rfl rfl rfl rfl rfl rfl ?_
  exact H

set_option maxRecDepth 20000 in
theorem B_D_window_124 {x1 x2 x3 x4 x5 x6 x7 x8 y0 : Int} {M : Mm} {Q : Mm → Option Mv → Prop} (H : ((0 ≤ x3 → Wq 3 0 0 mD_partOf 0 [iR 0, iI x3, iI y0, iI x8, none, none, none, none, none, none, none, none] [] M (fun M' v => Wq 6 0 0 mD_window 144 [iR 0, iI x1, iI x2, iI x3, iI x4, iI x5, iI x6, iI x7, iI x8, iI y0] (v.toList ++ []) M' Q)) ∧ (¬ 0 ≤ x3 → Q M (some (vI y0))))) : Wq 6 0 0 mD_window 124 [iR 0, iI x1, iI x2, iI x3, iI x4, iI x5, iI x6, iI x7, iI x8, none] [vI y0] M Q := by
  refine wq_istore (pc := 124) (lo' := [iR 0, iI x1, iI x2, iI x3, iI x4, iI x5, iI x6, iI x7, iI x8, iI y0]) dD_window_124 rfl rfl ?_
  refine wq_iload_n (pc := 126) dD_window_126 rfl rfl ?_
  refine wq_if_ge (pc := 127) (tgt := 135) dD_window_127 (by decide) (fun c1 => ?_) (fun c1 => ?_)
  · have H := H.1 c1
    refine wq_aload_n (pc := 135) dD_window_135 rfl rfl ?_
    refine wq_iload_n (pc := 136) dD_window_136 rfl rfl ?_
    refine wq_iload (pc := 137) dD_window_137 rfl ?_
    refine wq_iload (pc := 139) dD_window_139 rfl ?_
    refine wq_callV (d' := 3) (pc := 141) (as := [vI x3, vI y0, vI x8]) (rest := []) (lo' := [iR 0, iI x3, iI y0, iI x8, none, none, none, none, none, none, none, none]) dD_window_141 mO_D_partOf lV_D_224 sh_0 (by decide) cl_10 rfl rfl rfl rfl rfl rfl ?_
    exact H
  · have H := H.2 c1
    refine wq_iload (pc := 130) dD_window_130 rfl ?_
    refine wq_goto (pc := 132) (tgt := 144) dD_window_132 (by decide) ?_
    refine wq_ireturn (pc := 144) dD_window_144 trivial ?_
    exact H

set_option maxRecDepth 20000 in
theorem B_D_window_144 {x1 x2 x3 x4 x5 x6 x7 x8 x9 y0 : Int} {M : Mm} {Q : Mm → Option Mv → Prop} (H : Q M (some (vI y0))) : Wq 6 0 0 mD_window 144 [iR 0, iI x1, iI x2, iI x3, iI x4, iI x5, iI x6, iI x7, iI x8, iI x9] [vI y0] M Q := by
  refine wq_ireturn (pc := 144) dD_window_144 trivial ?_
  exact H
set_option maxRecDepth 20000 in
theorem B_E_ofCause_0 {x1 x2 : Int} {M : Mm} {Q : Mm → Option Mv → Prop} (H : Wq 2 0 0 mE_ofCause 5 [iR 12, iI x1, iI x2, iI 0, iI 0] [] M Q) : Wq 2 0 0 mE_ofCause 0 [iR 12, iI x1, iI x2, none, none] [] M Q := by
  refine wq_iconst (pc := 0) dE_ofCause_0 rfl ?_
  refine wq_istore_n (pc := 1) (lo' := [iR 12, iI x1, iI x2, iI 0, none]) dE_ofCause_1 rfl rfl rfl ?_
  refine wq_iconst (pc := 2) dE_ofCause_2 rfl ?_
  refine wq_istore (pc := 3) (lo' := [iR 12, iI x1, iI x2, iI 0, iI 0]) dE_ofCause_3 rfl rfl ?_
  exact H

set_option maxRecDepth 20000 in
theorem B_E_ofCause_5 {x1 x2 x3 x4 : Int} {M : Mm} {Q : Mm → Option Mv → Prop} (hS : RefOK M) (H : ((gI M 12 7 ≤ x4 → Q M (some (vI x3))) ∧ (¬ gI M 12 7 ≤ x4 → ((0 ≤ x1 ∧ x1 < 2147483648 ∧ 0 ≤ x4 ∧ x4 < 32) ∧ ((hb x1 x4 = true → ((0 ≤ x4 ∧ x4 < 20) ∧ ((¬ gI M 14 x4 = x2 → ((-2147483648 ≤ x4 + 1 ∧ x4 + 1 < 2147483648) ∧ Wq 2 0 0 mE_ofCause 5 [iR 12, iI x1, iI x2, iI x3, iI (x4 + 1)] [] M Q)) ∧ (gI M 14 x4 = x2 → ((-2147483648 ≤ x4 + 1 ∧ x4 + 1 < 2147483648) ∧ Wq 2 0 0 mE_ofCause 5 [iR 12, iI x1, iI x2, iI (bOr x3 (bShl 1 x4)), iI (x4 + 1)] [] M Q))))) ∧ (¬ (hb x1 x4 = true) → ((-2147483648 ≤ x4 + 1 ∧ x4 + 1 < 2147483648) ∧ Wq 2 0 0 mE_ofCause 5 [iR 12, iI x1, iI x2, iI x3, iI (x4 + 1)] [] M Q))))))) : Wq 2 0 0 mE_ofCause 5 [iR 12, iI x1, iI x2, iI x3, iI x4] [] M Q := by
  refine wq_iload (pc := 5) dE_ofCause_5 rfl ?_
  refine wq_aload_n (pc := 7) dE_ofCause_7 rfl rfl ?_
  refine wq_getI (pc := 8) (z := 7) dE_ofCause_8 fO_E_33 sh_12 rfl rfl ?_
  refine wq_icmp_ge (pc := 11) (tgt := 47) dE_ofCause_11 (by decide) (fun c1 => ?_) (fun c1 => ?_)
  · have H := H.1 c1
    refine wq_iload_n (pc := 47) dE_ofCause_47 rfl rfl ?_
    refine wq_ireturn (pc := 48) dE_ofCause_48 trivial ?_
    exact H
  · have H := H.2 c1
    obtain ⟨s2, H⟩ := H
    refine wq_iload_n (pc := 14) dE_ofCause_14 rfl rfl ?_
    refine wq_iload (pc := 15) dE_ofCause_15 rfl ?_
    refine wq_callS (d' := 1) (pc := 17) (as := [vI x1, vI x4]) (rest := []) (lo' := [iI x1, iI x4]) dE_ofCause_17 mO_D_holds lS_E_43 rfl rfl rfl rfl rfl rfl ?_
    refine sp_D_holds s2 (fun c3 => ?_) (fun c3 => ?_)
    · have H := H.1 c3
      show Wq 2 0 0 mE_ofCause 20 [iR 12, iI x1, iI x2, iI x3, iI x4] [vI 1] M _
      obtain ⟨s4, H⟩ := H
      refine wq_if_eq (pc := 20) (tgt := 41) dE_ofCause_20 (by decide) (fun q => absurd q (by decide)) (fun _ => ?_)
      refine wq_aload_n (pc := 23) dE_ofCause_23 rfl rfl ?_
      refine wq_getR (pc := 24) (z := 1) (b := 14) dE_ofCause_24 fO_E_15 sh_12 rfl rfl (rf_12_1 hS) ?_
      refine wq_iload (pc := 27) dE_ofCause_27 rfl ?_
      refine wq_iald (pc := 29) dE_ofCause_29 sh_14 s4.1 s4.2 ?_
      refine wq_iload_n (pc := 30) dE_ofCause_30 rfl rfl ?_
      refine wq_icmp_ne (pc := 31) (tgt := 41) dE_ofCause_31 (by decide) (fun c5 => ?_) (fun c5 => ?_)
      · have H := H.1 c5
        obtain ⟨s6, H⟩ := H
        refine wq_iinc (pc := 41) (lo' := [iR 12, iI x1, iI x2, iI x3, iI (x4 + 1)]) dE_ofCause_41 rfl rfl (by rw [show wr (x4 + 1) = x4 + 1 from (Eq.trans (wr_eq (by omega) (by omega)) (by omega))]; rfl) ?_
        refine wq_goto (pc := 44) (tgt := 5) dE_ofCause_44 (by decide) ?_
        exact H
      · have H := H.2 c5
        obtain ⟨s7, H⟩ := H
        refine wq_iload_n (pc := 34) dE_ofCause_34 rfl rfl ?_
        refine wq_iconst (pc := 35) dE_ofCause_35 rfl ?_
        refine wq_iload (pc := 36) dE_ofCause_36 rfl ?_
        refine wq_ishl (pc := 38) dE_ofCause_38 ?_
        refine wq_ior (pc := 39) dE_ofCause_39 ?_
        refine wq_istore_n (pc := 40) (lo' := [iR 12, iI x1, iI x2, iI (bOr x3 (bShl 1 x4)), iI x4]) dE_ofCause_40 rfl rfl rfl ?_
        refine wq_iinc (pc := 41) (lo' := [iR 12, iI x1, iI x2, iI (bOr x3 (bShl 1 x4)), iI (x4 + 1)]) dE_ofCause_41 rfl rfl (by rw [show wr (x4 + 1) = x4 + 1 from (Eq.trans (wr_eq (by omega) (by omega)) (by omega))]; rfl) ?_
        refine wq_goto (pc := 44) (tgt := 5) dE_ofCause_44 (by decide) ?_
        exact H
    · have H := H.2 c3
      show Wq 2 0 0 mE_ofCause 20 [iR 12, iI x1, iI x2, iI x3, iI x4] [vI 0] M _
      obtain ⟨s8, H⟩ := H
      refine wq_if_eq (pc := 20) (tgt := 41) dE_ofCause_20 (by decide) (fun _ => ?_) (fun q => absurd (by decide) q)
      refine wq_iinc (pc := 41) (lo' := [iR 12, iI x1, iI x2, iI x3, iI (x4 + 1)]) dE_ofCause_41 rfl rfl (by rw [show wr (x4 + 1) = x4 + 1 from (Eq.trans (wr_eq (by omega) (by omega)) (by omega))]; rfl) ?_
      refine wq_goto (pc := 44) (tgt := 5) dE_ofCause_44 (by decide) ?_
      exact H
set_option maxRecDepth 20000 in
theorem B_E_upTo_0 {x1 x2 : Int} {M : Mm} {Q : Mm → Option Mv → Prop} (H : Wq 2 0 0 mE_upTo 5 [iR 12, iI x1, iI x2, iI 0, iI 0] [] M Q) : Wq 2 0 0 mE_upTo 0 [iR 12, iI x1, iI x2, none, none] [] M Q := by
  refine wq_iconst (pc := 0) dE_upTo_0 rfl ?_
  refine wq_istore_n (pc := 1) (lo' := [iR 12, iI x1, iI x2, iI 0, none]) dE_upTo_1 rfl rfl rfl ?_
  refine wq_iconst (pc := 2) dE_upTo_2 rfl ?_
  refine wq_istore (pc := 3) (lo' := [iR 12, iI x1, iI x2, iI 0, iI 0]) dE_upTo_3 rfl rfl ?_
  exact H

set_option maxRecDepth 20000 in
theorem B_E_upTo_5 {x1 x2 x3 x4 : Int} {M : Mm} {Q : Mm → Option Mv → Prop} (hS : RefOK M) (H : ((gI M 12 7 ≤ x4 → Q M (some (vI x3))) ∧ (¬ gI M 12 7 ≤ x4 → ((0 ≤ x1 ∧ x1 < 2147483648 ∧ 0 ≤ x4 ∧ x4 < 32) ∧ ((hb x1 x4 = true → ((0 ≤ x4 ∧ x4 < 20) ∧ ((x2 < gI M 15 x4 → ((-2147483648 ≤ x4 + 1 ∧ x4 + 1 < 2147483648) ∧ Wq 2 0 0 mE_upTo 5 [iR 12, iI x1, iI x2, iI x3, iI (x4 + 1)] [] M Q)) ∧ (¬ x2 < gI M 15 x4 → ((-2147483648 ≤ x4 + 1 ∧ x4 + 1 < 2147483648) ∧ Wq 2 0 0 mE_upTo 5 [iR 12, iI x1, iI x2, iI (bOr x3 (bShl 1 x4)), iI (x4 + 1)] [] M Q))))) ∧ (¬ (hb x1 x4 = true) → ((-2147483648 ≤ x4 + 1 ∧ x4 + 1 < 2147483648) ∧ Wq 2 0 0 mE_upTo 5 [iR 12, iI x1, iI x2, iI x3, iI (x4 + 1)] [] M Q))))))) : Wq 2 0 0 mE_upTo 5 [iR 12, iI x1, iI x2, iI x3, iI x4] [] M Q := by
  refine wq_iload (pc := 5) dE_upTo_5 rfl ?_
  refine wq_aload_n (pc := 7) dE_upTo_7 rfl rfl ?_
  refine wq_getI (pc := 8) (z := 7) dE_upTo_8 fO_E_33 sh_12 rfl rfl ?_
  refine wq_icmp_ge (pc := 11) (tgt := 47) dE_upTo_11 (by decide) (fun c1 => ?_) (fun c1 => ?_)
  · have H := H.1 c1
    refine wq_iload_n (pc := 47) dE_upTo_47 rfl rfl ?_
    refine wq_ireturn (pc := 48) dE_upTo_48 trivial ?_
    exact H
  · have H := H.2 c1
    obtain ⟨s2, H⟩ := H
    refine wq_iload_n (pc := 14) dE_upTo_14 rfl rfl ?_
    refine wq_iload (pc := 15) dE_upTo_15 rfl ?_
    refine wq_callS (d' := 1) (pc := 17) (as := [vI x1, vI x4]) (rest := []) (lo' := [iI x1, iI x4]) dE_upTo_17 mO_D_holds lS_E_43 rfl rfl rfl rfl rfl rfl ?_
    refine sp_D_holds s2 (fun c3 => ?_) (fun c3 => ?_)
    · have H := H.1 c3
      show Wq 2 0 0 mE_upTo 20 [iR 12, iI x1, iI x2, iI x3, iI x4] [vI 1] M _
      obtain ⟨s4, H⟩ := H
      refine wq_if_eq (pc := 20) (tgt := 41) dE_upTo_20 (by decide) (fun q => absurd q (by decide)) (fun _ => ?_)
      refine wq_aload_n (pc := 23) dE_upTo_23 rfl rfl ?_
      refine wq_getR (pc := 24) (z := 2) (b := 15) dE_upTo_24 fO_E_18 sh_12 rfl rfl (rf_12_2 hS) ?_
      refine wq_iload (pc := 27) dE_upTo_27 rfl ?_
      refine wq_iald (pc := 29) dE_upTo_29 sh_15 s4.1 s4.2 ?_
      refine wq_iload_n (pc := 30) dE_upTo_30 rfl rfl ?_
      refine wq_icmp_gt (pc := 31) (tgt := 41) dE_upTo_31 (by decide) (fun c5 => ?_) (fun c5 => ?_)
      · have H := H.1 c5
        obtain ⟨s6, H⟩ := H
        refine wq_iinc (pc := 41) (lo' := [iR 12, iI x1, iI x2, iI x3, iI (x4 + 1)]) dE_upTo_41 rfl rfl (by rw [show wr (x4 + 1) = x4 + 1 from (Eq.trans (wr_eq (by omega) (by omega)) (by omega))]; rfl) ?_
        refine wq_goto (pc := 44) (tgt := 5) dE_upTo_44 (by decide) ?_
        exact H
      · have H := H.2 c5
        obtain ⟨s7, H⟩ := H
        refine wq_iload_n (pc := 34) dE_upTo_34 rfl rfl ?_
        refine wq_iconst (pc := 35) dE_upTo_35 rfl ?_
        refine wq_iload (pc := 36) dE_upTo_36 rfl ?_
        refine wq_ishl (pc := 38) dE_upTo_38 ?_
        refine wq_ior (pc := 39) dE_upTo_39 ?_
        refine wq_istore_n (pc := 40) (lo' := [iR 12, iI x1, iI x2, iI (bOr x3 (bShl 1 x4)), iI x4]) dE_upTo_40 rfl rfl rfl ?_
        refine wq_iinc (pc := 41) (lo' := [iR 12, iI x1, iI x2, iI (bOr x3 (bShl 1 x4)), iI (x4 + 1)]) dE_upTo_41 rfl rfl (by rw [show wr (x4 + 1) = x4 + 1 from (Eq.trans (wr_eq (by omega) (by omega)) (by omega))]; rfl) ?_
        refine wq_goto (pc := 44) (tgt := 5) dE_upTo_44 (by decide) ?_
        exact H
    · have H := H.2 c3
      show Wq 2 0 0 mE_upTo 20 [iR 12, iI x1, iI x2, iI x3, iI x4] [vI 0] M _
      obtain ⟨s8, H⟩ := H
      refine wq_if_eq (pc := 20) (tgt := 41) dE_upTo_20 (by decide) (fun _ => ?_) (fun q => absurd (by decide) q)
      refine wq_iinc (pc := 41) (lo' := [iR 12, iI x1, iI x2, iI x3, iI (x4 + 1)]) dE_upTo_41 rfl rfl (by rw [show wr (x4 + 1) = x4 + 1 from (Eq.trans (wr_eq (by omega) (by omega)) (by omega))]; rfl) ?_
      refine wq_goto (pc := 44) (tgt := 5) dE_upTo_44 (by decide) ?_
      exact H
set_option maxRecDepth 20000 in
theorem B_E_aheadOf_0 {x1 x2 : Int} {M : Mm} {Q : Mm → Option Mv → Prop} (H : Wq 2 0 0 mE_aheadOf 5 [iR 12, iI x1, iI x2, iI 0, iI 0, none] [] M Q) : Wq 2 0 0 mE_aheadOf 0 [iR 12, iI x1, iI x2, none, none, none] [] M Q := by
  refine wq_iconst (pc := 0) dE_aheadOf_0 rfl ?_
  refine wq_istore_n (pc := 1) (lo' := [iR 12, iI x1, iI x2, iI 0, none, none]) dE_aheadOf_1 rfl rfl rfl ?_
  refine wq_iconst (pc := 2) dE_aheadOf_2 rfl ?_
  refine wq_istore (pc := 3) (lo' := [iR 12, iI x1, iI x2, iI 0, iI 0, none]) dE_aheadOf_3 rfl rfl ?_
  exact H

set_option maxRecDepth 20000 in
theorem B_E_aheadOf_5 {x1 x2 x3 x4 : Int} {M : Mm} {Q : Mm → Option Mv → Prop} (hS : RefOK M) (H : ((gI M 12 7 ≤ x4 → Q M (some (vI x3))) ∧ (¬ gI M 12 7 ≤ x4 → (((0 ≤ x4 ∧ x4 < 20) ∧ (0 ≤ x1 ∧ x1 < 20)) ∧ ((gI M 15 x4 < gI M 15 x1 → ((0 ≤ x2 ∧ x2 < 2147483648 ∧ 0 ≤ x4 ∧ x4 < 32) ∧ ((hb x2 x4 = true → ((-2147483648 ≤ x4 + 1 ∧ x4 + 1 < 2147483648) ∧ Wq 2 0 0 mE_aheadOf 5 [iR 12, iI x1, iI x2, iI (bOr x3 (bShl 1 x4)), iI (x4 + 1), none] [] M Q)) ∧ (¬ (hb x2 x4 = true) → ((-2147483648 ≤ x4 + 1 ∧ x4 + 1 < 2147483648) ∧ Wq 2 0 0 mE_aheadOf 5 [iR 12, iI x1, iI x2, iI x3, iI (x4 + 1), none] [] M Q))))) ∧ (¬ gI M 15 x4 < gI M 15 x1 → ((¬ gI M 15 x4 = gI M 15 x1 → ((0 ≤ x2 ∧ x2 < 2147483648 ∧ 0 ≤ x4 ∧ x4 < 32) ∧ ((hb x2 x4 = true → ((-2147483648 ≤ x4 + 1 ∧ x4 + 1 < 2147483648) ∧ Wq 2 0 0 mE_aheadOf 5 [iR 12, iI x1, iI x2, iI x3, iI (x4 + 1), none] [] M Q)) ∧ (¬ (hb x2 x4 = true) → ((-2147483648 ≤ x4 + 1 ∧ x4 + 1 < 2147483648) ∧ Wq 2 0 0 mE_aheadOf 5 [iR 12, iI x1, iI x2, iI x3, iI (x4 + 1), none] [] M Q))))) ∧ (gI M 15 x4 = gI M 15 x1 → ((x1 ≤ x4 → ((0 ≤ x2 ∧ x2 < 2147483648 ∧ 0 ≤ x4 ∧ x4 < 32) ∧ ((hb x2 x4 = true → ((-2147483648 ≤ x4 + 1 ∧ x4 + 1 < 2147483648) ∧ Wq 2 0 0 mE_aheadOf 5 [iR 12, iI x1, iI x2, iI x3, iI (x4 + 1), none] [] M Q)) ∧ (¬ (hb x2 x4 = true) → ((-2147483648 ≤ x4 + 1 ∧ x4 + 1 < 2147483648) ∧ Wq 2 0 0 mE_aheadOf 5 [iR 12, iI x1, iI x2, iI x3, iI (x4 + 1), none] [] M Q))))) ∧ (¬ x1 ≤ x4 → ((0 ≤ x2 ∧ x2 < 2147483648 ∧ 0 ≤ x4 ∧ x4 < 32) ∧ ((hb x2 x4 = true → ((-2147483648 ≤ x4 + 1 ∧ x4 + 1 < 2147483648) ∧ Wq 2 0 0 mE_aheadOf 5 [iR 12, iI x1, iI x2, iI (bOr x3 (bShl 1 x4)), iI (x4 + 1), none] [] M Q)) ∧ (¬ (hb x2 x4 = true) → ((-2147483648 ≤ x4 + 1 ∧ x4 + 1 < 2147483648) ∧ Wq 2 0 0 mE_aheadOf 5 [iR 12, iI x1, iI x2, iI x3, iI (x4 + 1), none] [] M Q)))))))))))))) : Wq 2 0 0 mE_aheadOf 5 [iR 12, iI x1, iI x2, iI x3, iI x4, none] [] M Q := by
  refine wq_iload (pc := 5) dE_aheadOf_5 rfl ?_
  refine wq_aload_n (pc := 7) dE_aheadOf_7 rfl rfl ?_
  refine wq_getI (pc := 8) (z := 7) dE_aheadOf_8 fO_E_33 sh_12 rfl rfl ?_
  refine wq_icmp_ge (pc := 11) (tgt := 86) dE_aheadOf_11 (by decide) (fun c1 => ?_) (fun c1 => ?_)
  · have H := H.1 c1
    refine wq_iload_n (pc := 86) dE_aheadOf_86 rfl rfl ?_
    refine wq_ireturn (pc := 87) dE_aheadOf_87 trivial ?_
    exact H
  · have H := H.2 c1
    obtain ⟨⟨s2, s3⟩, H⟩ := H
    refine wq_aload_n (pc := 14) dE_aheadOf_14 rfl rfl ?_
    refine wq_getR (pc := 15) (z := 2) (b := 15) dE_aheadOf_15 fO_E_18 sh_12 rfl rfl (rf_12_2 hS) ?_
    refine wq_iload (pc := 18) dE_aheadOf_18 rfl ?_
    refine wq_iald (pc := 20) dE_aheadOf_20 sh_15 s2.1 s2.2 ?_
    refine wq_aload_n (pc := 21) dE_aheadOf_21 rfl rfl ?_
    refine wq_getR (pc := 22) (z := 2) (b := 15) dE_aheadOf_22 fO_E_18 sh_12 rfl rfl (rf_12_2 hS) ?_
    refine wq_iload_n (pc := 25) dE_aheadOf_25 rfl rfl ?_
    refine wq_iald (pc := 26) dE_aheadOf_26 sh_15 s3.1 s3.2 ?_
    refine wq_icmp_lt (pc := 27) (tgt := 52) dE_aheadOf_27 (by decide) (fun c4 => ?_) (fun c4 => ?_)
    · have H := H.1 c4
      obtain ⟨s5, H⟩ := H
      refine wq_iconst (pc := 52) dE_aheadOf_52 rfl ?_
      refine wq_goto (pc := 53) (tgt := 57) dE_aheadOf_53 (by decide) ?_
      refine wq_istore (pc := 57) (lo' := [iR 12, iI x1, iI x2, iI x3, iI x4, iI 1]) dE_aheadOf_57 rfl rfl ?_
      refine wq_iload_n (pc := 59) dE_aheadOf_59 rfl rfl ?_
      refine wq_iload (pc := 60) dE_aheadOf_60 rfl ?_
      refine wq_callS (d' := 1) (pc := 62) (as := [vI x2, vI x4]) (rest := []) (lo' := [iI x2, iI x4]) dE_aheadOf_62 mO_D_holds lS_E_43 rfl rfl rfl rfl rfl rfl ?_
      refine sp_D_holds s5 (fun c6 => ?_) (fun c6 => ?_)
      · have H := H.1 c6
        show Wq 2 0 0 mE_aheadOf 65 [iR 12, iI x1, iI x2, iI x3, iI x4, iI 1] [vI 1] M _
        obtain ⟨s7, H⟩ := H
        refine wq_if_eq (pc := 65) (tgt := 80) dE_aheadOf_65 (by decide) (fun q => absurd q (by decide)) (fun _ => ?_)
        refine wq_iload (pc := 68) dE_aheadOf_68 rfl ?_
        refine wq_if_eq (pc := 70) (tgt := 80) dE_aheadOf_70 (by decide) (fun q => absurd q (by decide)) (fun _ => ?_)
        refine wq_iload_n (pc := 73) dE_aheadOf_73 rfl rfl ?_
        refine wq_iconst (pc := 74) dE_aheadOf_74 rfl ?_
        refine wq_iload (pc := 75) dE_aheadOf_75 rfl ?_
        refine wq_ishl (pc := 77) dE_aheadOf_77 ?_
        refine wq_ior (pc := 78) dE_aheadOf_78 ?_
        refine wq_istore_n (pc := 79) (lo' := [iR 12, iI x1, iI x2, iI (bOr x3 (bShl 1 x4)), iI x4, iI 1]) dE_aheadOf_79 rfl rfl rfl ?_
        refine wq_iinc (pc := 80) (lo' := [iR 12, iI x1, iI x2, iI (bOr x3 (bShl 1 x4)), iI (x4 + 1), iI 1]) dE_aheadOf_80 rfl rfl (by rw [show wr (x4 + 1) = x4 + 1 from (Eq.trans (wr_eq (by omega) (by omega)) (by omega))]; rfl) ?_
        refine wq_goto (pc := 83) (tgt := 5) dE_aheadOf_83 (by decide) ?_
        refine wq_drop [5] (lo' := [iR 12, iI x1, iI x2, iI (bOr x3 (bShl 1 x4)), iI (x4 + 1), none]) rfl ?_
        exact H
      · have H := H.2 c6
        show Wq 2 0 0 mE_aheadOf 65 [iR 12, iI x1, iI x2, iI x3, iI x4, iI 1] [vI 0] M _
        obtain ⟨s8, H⟩ := H
        refine wq_if_eq (pc := 65) (tgt := 80) dE_aheadOf_65 (by decide) (fun _ => ?_) (fun q => absurd (by decide) q)
        refine wq_iinc (pc := 80) (lo' := [iR 12, iI x1, iI x2, iI x3, iI (x4 + 1), iI 1]) dE_aheadOf_80 rfl rfl (by rw [show wr (x4 + 1) = x4 + 1 from (Eq.trans (wr_eq (by omega) (by omega)) (by omega))]; rfl) ?_
        refine wq_goto (pc := 83) (tgt := 5) dE_aheadOf_83 (by decide) ?_
        refine wq_drop [5] (lo' := [iR 12, iI x1, iI x2, iI x3, iI (x4 + 1), none]) rfl ?_
        exact H
    · have H := H.2 c4
      refine wq_aload_n (pc := 30) dE_aheadOf_30 rfl rfl ?_
      refine wq_getR (pc := 31) (z := 2) (b := 15) dE_aheadOf_31 fO_E_18 sh_12 rfl rfl (rf_12_2 hS) ?_
      refine wq_iload (pc := 34) dE_aheadOf_34 rfl ?_
      refine wq_iald (pc := 36) dE_aheadOf_36 sh_15 s2.1 s2.2 ?_
      refine wq_aload_n (pc := 37) dE_aheadOf_37 rfl rfl ?_
      refine wq_getR (pc := 38) (z := 2) (b := 15) dE_aheadOf_38 fO_E_18 sh_12 rfl rfl (rf_12_2 hS) ?_
      refine wq_iload_n (pc := 41) dE_aheadOf_41 rfl rfl ?_
      refine wq_iald (pc := 42) dE_aheadOf_42 sh_15 s3.1 s3.2 ?_
      refine wq_icmp_ne (pc := 43) (tgt := 56) dE_aheadOf_43 (by decide) (fun c9 => ?_) (fun c9 => ?_)
      · have H := H.1 c9
        obtain ⟨s10, H⟩ := H
        refine wq_iconst (pc := 56) dE_aheadOf_56 rfl ?_
        refine wq_istore (pc := 57) (lo' := [iR 12, iI x1, iI x2, iI x3, iI x4, iI 0]) dE_aheadOf_57 rfl rfl ?_
        refine wq_iload_n (pc := 59) dE_aheadOf_59 rfl rfl ?_
        refine wq_iload (pc := 60) dE_aheadOf_60 rfl ?_
        refine wq_callS (d' := 1) (pc := 62) (as := [vI x2, vI x4]) (rest := []) (lo' := [iI x2, iI x4]) dE_aheadOf_62 mO_D_holds lS_E_43 rfl rfl rfl rfl rfl rfl ?_
        refine sp_D_holds s10 (fun c11 => ?_) (fun c11 => ?_)
        · have H := H.1 c11
          show Wq 2 0 0 mE_aheadOf 65 [iR 12, iI x1, iI x2, iI x3, iI x4, iI 0] [vI 1] M _
          obtain ⟨s12, H⟩ := H
          refine wq_if_eq (pc := 65) (tgt := 80) dE_aheadOf_65 (by decide) (fun q => absurd q (by decide)) (fun _ => ?_)
          refine wq_iload (pc := 68) dE_aheadOf_68 rfl ?_
          refine wq_if_eq (pc := 70) (tgt := 80) dE_aheadOf_70 (by decide) (fun _ => ?_) (fun q => absurd (by decide) q)
          refine wq_iinc (pc := 80) (lo' := [iR 12, iI x1, iI x2, iI x3, iI (x4 + 1), iI 0]) dE_aheadOf_80 rfl rfl (by rw [show wr (x4 + 1) = x4 + 1 from (Eq.trans (wr_eq (by omega) (by omega)) (by omega))]; rfl) ?_
          refine wq_goto (pc := 83) (tgt := 5) dE_aheadOf_83 (by decide) ?_
          refine wq_drop [5] (lo' := [iR 12, iI x1, iI x2, iI x3, iI (x4 + 1), none]) rfl ?_
          exact H
        · have H := H.2 c11
          show Wq 2 0 0 mE_aheadOf 65 [iR 12, iI x1, iI x2, iI x3, iI x4, iI 0] [vI 0] M _
          obtain ⟨s13, H⟩ := H
          refine wq_if_eq (pc := 65) (tgt := 80) dE_aheadOf_65 (by decide) (fun _ => ?_) (fun q => absurd (by decide) q)
          refine wq_iinc (pc := 80) (lo' := [iR 12, iI x1, iI x2, iI x3, iI (x4 + 1), iI 0]) dE_aheadOf_80 rfl rfl (by rw [show wr (x4 + 1) = x4 + 1 from (Eq.trans (wr_eq (by omega) (by omega)) (by omega))]; rfl) ?_
          refine wq_goto (pc := 83) (tgt := 5) dE_aheadOf_83 (by decide) ?_
          refine wq_drop [5] (lo' := [iR 12, iI x1, iI x2, iI x3, iI (x4 + 1), none]) rfl ?_
          exact H
      · have H := H.2 c9
        refine wq_iload (pc := 46) dE_aheadOf_46 rfl ?_
        refine wq_iload_n (pc := 48) dE_aheadOf_48 rfl rfl ?_
        refine wq_icmp_ge (pc := 49) (tgt := 56) dE_aheadOf_49 (by decide) (fun c14 => ?_) (fun c14 => ?_)
        · have H := H.1 c14
          obtain ⟨s15, H⟩ := H
          refine wq_iconst (pc := 56) dE_aheadOf_56 rfl ?_
          refine wq_istore (pc := 57) (lo' := [iR 12, iI x1, iI x2, iI x3, iI x4, iI 0]) dE_aheadOf_57 rfl rfl ?_
          refine wq_iload_n (pc := 59) dE_aheadOf_59 rfl rfl ?_
          refine wq_iload (pc := 60) dE_aheadOf_60 rfl ?_
          refine wq_callS (d' := 1) (pc := 62) (as := [vI x2, vI x4]) (rest := []) (lo' := [iI x2, iI x4]) dE_aheadOf_62 mO_D_holds lS_E_43 rfl rfl rfl rfl rfl rfl ?_
          refine sp_D_holds s15 (fun c16 => ?_) (fun c16 => ?_)
          · have H := H.1 c16
            show Wq 2 0 0 mE_aheadOf 65 [iR 12, iI x1, iI x2, iI x3, iI x4, iI 0] [vI 1] M _
            obtain ⟨s17, H⟩ := H
            refine wq_if_eq (pc := 65) (tgt := 80) dE_aheadOf_65 (by decide) (fun q => absurd q (by decide)) (fun _ => ?_)
            refine wq_iload (pc := 68) dE_aheadOf_68 rfl ?_
            refine wq_if_eq (pc := 70) (tgt := 80) dE_aheadOf_70 (by decide) (fun _ => ?_) (fun q => absurd (by decide) q)
            refine wq_iinc (pc := 80) (lo' := [iR 12, iI x1, iI x2, iI x3, iI (x4 + 1), iI 0]) dE_aheadOf_80 rfl rfl (by rw [show wr (x4 + 1) = x4 + 1 from (Eq.trans (wr_eq (by omega) (by omega)) (by omega))]; rfl) ?_
            refine wq_goto (pc := 83) (tgt := 5) dE_aheadOf_83 (by decide) ?_
            refine wq_drop [5] (lo' := [iR 12, iI x1, iI x2, iI x3, iI (x4 + 1), none]) rfl ?_
            exact H
          · have H := H.2 c16
            show Wq 2 0 0 mE_aheadOf 65 [iR 12, iI x1, iI x2, iI x3, iI x4, iI 0] [vI 0] M _
            obtain ⟨s18, H⟩ := H
            refine wq_if_eq (pc := 65) (tgt := 80) dE_aheadOf_65 (by decide) (fun _ => ?_) (fun q => absurd (by decide) q)
            refine wq_iinc (pc := 80) (lo' := [iR 12, iI x1, iI x2, iI x3, iI (x4 + 1), iI 0]) dE_aheadOf_80 rfl rfl (by rw [show wr (x4 + 1) = x4 + 1 from (Eq.trans (wr_eq (by omega) (by omega)) (by omega))]; rfl) ?_
            refine wq_goto (pc := 83) (tgt := 5) dE_aheadOf_83 (by decide) ?_
            refine wq_drop [5] (lo' := [iR 12, iI x1, iI x2, iI x3, iI (x4 + 1), none]) rfl ?_
            exact H
        · have H := H.2 c14
          obtain ⟨s19, H⟩ := H
          refine wq_iconst (pc := 52) dE_aheadOf_52 rfl ?_
          refine wq_goto (pc := 53) (tgt := 57) dE_aheadOf_53 (by decide) ?_
          refine wq_istore (pc := 57) (lo' := [iR 12, iI x1, iI x2, iI x3, iI x4, iI 1]) dE_aheadOf_57 rfl rfl ?_
          refine wq_iload_n (pc := 59) dE_aheadOf_59 rfl rfl ?_
          refine wq_iload (pc := 60) dE_aheadOf_60 rfl ?_
          refine wq_callS (d' := 1) (pc := 62) (as := [vI x2, vI x4]) (rest := []) (lo' := [iI x2, iI x4]) dE_aheadOf_62 mO_D_holds lS_E_43 rfl rfl rfl rfl rfl rfl ?_
          refine sp_D_holds s19 (fun c20 => ?_) (fun c20 => ?_)
          · have H := H.1 c20
            show Wq 2 0 0 mE_aheadOf 65 [iR 12, iI x1, iI x2, iI x3, iI x4, iI 1] [vI 1] M _
            obtain ⟨s21, H⟩ := H
            refine wq_if_eq (pc := 65) (tgt := 80) dE_aheadOf_65 (by decide) (fun q => absurd q (by decide)) (fun _ => ?_)
            refine wq_iload (pc := 68) dE_aheadOf_68 rfl ?_
            refine wq_if_eq (pc := 70) (tgt := 80) dE_aheadOf_70 (by decide) (fun q => absurd q (by decide)) (fun _ => ?_)
            refine wq_iload_n (pc := 73) dE_aheadOf_73 rfl rfl ?_
            refine wq_iconst (pc := 74) dE_aheadOf_74 rfl ?_
            refine wq_iload (pc := 75) dE_aheadOf_75 rfl ?_
            refine wq_ishl (pc := 77) dE_aheadOf_77 ?_
            refine wq_ior (pc := 78) dE_aheadOf_78 ?_
            refine wq_istore_n (pc := 79) (lo' := [iR 12, iI x1, iI x2, iI (bOr x3 (bShl 1 x4)), iI x4, iI 1]) dE_aheadOf_79 rfl rfl rfl ?_
            refine wq_iinc (pc := 80) (lo' := [iR 12, iI x1, iI x2, iI (bOr x3 (bShl 1 x4)), iI (x4 + 1), iI 1]) dE_aheadOf_80 rfl rfl (by rw [show wr (x4 + 1) = x4 + 1 from (Eq.trans (wr_eq (by omega) (by omega)) (by omega))]; rfl) ?_
            refine wq_goto (pc := 83) (tgt := 5) dE_aheadOf_83 (by decide) ?_
            refine wq_drop [5] (lo' := [iR 12, iI x1, iI x2, iI (bOr x3 (bShl 1 x4)), iI (x4 + 1), none]) rfl ?_
            exact H
          · have H := H.2 c20
            show Wq 2 0 0 mE_aheadOf 65 [iR 12, iI x1, iI x2, iI x3, iI x4, iI 1] [vI 0] M _
            obtain ⟨s22, H⟩ := H
            refine wq_if_eq (pc := 65) (tgt := 80) dE_aheadOf_65 (by decide) (fun _ => ?_) (fun q => absurd (by decide) q)
            refine wq_iinc (pc := 80) (lo' := [iR 12, iI x1, iI x2, iI x3, iI (x4 + 1), iI 1]) dE_aheadOf_80 rfl rfl (by rw [show wr (x4 + 1) = x4 + 1 from (Eq.trans (wr_eq (by omega) (by omega)) (by omega))]; rfl) ?_
            refine wq_goto (pc := 83) (tgt := 5) dE_aheadOf_83 (by decide) ?_
            refine wq_drop [5] (lo' := [iR 12, iI x1, iI x2, iI x3, iI (x4 + 1), none]) rfl ?_
            exact H
set_option maxRecDepth 20000 in
theorem B_E_daysTogether_0 {x1 : Int} {M : Mm} {Q : Mm → Option Mv → Prop} (H : Wq 2 0 0 mE_daysTogether 4 [iR 12, iI x1, iI 0, iI 0] [] M Q) : Wq 2 0 0 mE_daysTogether 0 [iR 12, iI x1, none, none] [] M Q := by
  refine wq_iconst (pc := 0) dE_daysTogether_0 rfl ?_
  refine wq_istore_n (pc := 1) (lo' := [iR 12, iI x1, iI 0, none]) dE_daysTogether_1 rfl rfl rfl ?_
  refine wq_iconst (pc := 2) dE_daysTogether_2 rfl ?_
  refine wq_istore_n (pc := 3) (lo' := [iR 12, iI x1, iI 0, iI 0]) dE_daysTogether_3 rfl rfl rfl ?_
  exact H

set_option maxRecDepth 20000 in
theorem B_E_daysTogether_4 {x1 x2 x3 : Int} {M : Mm} {Q : Mm → Option Mv → Prop} (hS : RefOK M) (H : ((gI M 12 7 ≤ x3 → Q M (some (vI x2))) ∧ (¬ gI M 12 7 ≤ x3 → ((0 ≤ x1 ∧ x1 < 2147483648 ∧ 0 ≤ x3 ∧ x3 < 32) ∧ ((hb x1 x3 = true → (((0 ≤ x3 ∧ x3 < 20) ∧ (-2147483648 ≤ x2 + gI M 16 x3 ∧ x2 + gI M 16 x3 < 2147483648) ∧ (-2147483648 ≤ x3 + 1 ∧ x3 + 1 < 2147483648)) ∧ Wq 2 0 0 mE_daysTogether 4 [iR 12, iI x1, iI (x2 + gI M 16 x3), iI (x3 + 1)] [] M Q)) ∧ (¬ (hb x1 x3 = true) → (((-2147483648 ≤ x2 ∧ x2 < 2147483648) ∧ (-2147483648 ≤ x3 + 1 ∧ x3 + 1 < 2147483648)) ∧ Wq 2 0 0 mE_daysTogether 4 [iR 12, iI x1, iI x2, iI (x3 + 1)] [] M Q))))))) : Wq 2 0 0 mE_daysTogether 4 [iR 12, iI x1, iI x2, iI x3] [] M Q := by
  refine wq_iload_n (pc := 4) dE_daysTogether_4 rfl rfl ?_
  refine wq_aload_n (pc := 5) dE_daysTogether_5 rfl rfl ?_
  refine wq_getI (pc := 6) (z := 7) dE_daysTogether_6 fO_E_33 sh_12 rfl rfl ?_
  refine wq_icmp_ge (pc := 9) (tgt := 39) dE_daysTogether_9 (by decide) (fun c1 => ?_) (fun c1 => ?_)
  · have H := H.1 c1
    refine wq_iload_n (pc := 39) dE_daysTogether_39 rfl rfl ?_
    refine wq_ireturn (pc := 40) dE_daysTogether_40 trivial ?_
    exact H
  · have H := H.2 c1
    obtain ⟨s2, H⟩ := H
    refine wq_iload_n (pc := 12) dE_daysTogether_12 rfl rfl ?_
    refine wq_iload_n (pc := 13) dE_daysTogether_13 rfl rfl ?_
    refine wq_iload_n (pc := 14) dE_daysTogether_14 rfl rfl ?_
    refine wq_callS (d' := 1) (pc := 15) (as := [vI x1, vI x3]) (rest := [vI x2]) (lo' := [iI x1, iI x3]) dE_daysTogether_15 mO_D_holds lS_E_43 rfl rfl rfl rfl rfl rfl ?_
    refine sp_D_holds s2 (fun c3 => ?_) (fun c3 => ?_)
    · have H := H.1 c3
      show Wq 2 0 0 mE_daysTogether 18 [iR 12, iI x1, iI x2, iI x3] [vI 1, vI x2] M _
      obtain ⟨⟨s4, s5, s6⟩, H⟩ := H
      refine wq_if_eq (pc := 18) (tgt := 30) dE_daysTogether_18 (by decide) (fun q => absurd q (by decide)) (fun _ => ?_)
      refine wq_aload_n (pc := 21) dE_daysTogether_21 rfl rfl ?_
      refine wq_getR (pc := 22) (z := 3) (b := 16) dE_daysTogether_22 fO_E_21 sh_12 rfl rfl (rf_12_3 hS) ?_
      refine wq_iload_n (pc := 25) dE_daysTogether_25 rfl rfl ?_
      refine wq_iald (pc := 26) dE_daysTogether_26 sh_16 s4.1 s4.2 ?_
      refine wq_goto (pc := 27) (tgt := 31) dE_daysTogether_27 (by decide) ?_
      refine wq_iadd (pc := 31) dE_daysTogether_31 ?_
      refine wq_re (x := (wr (x2 + gI M 16 x3))) (y := (x2 + gI M 16 x3)) (Eq.trans (wr_eq (by omega) (by omega)) (by omega)) ?_
      refine wq_istore_n (pc := 32) (lo' := [iR 12, iI x1, iI (x2 + gI M 16 x3), iI x3]) dE_daysTogether_32 rfl rfl rfl ?_
      refine wq_iinc (pc := 33) (lo' := [iR 12, iI x1, iI (x2 + gI M 16 x3), iI (x3 + 1)]) dE_daysTogether_33 rfl rfl (by rw [show wr (x3 + 1) = x3 + 1 from (Eq.trans (wr_eq (by omega) (by omega)) (by omega))]; rfl) ?_
      refine wq_goto (pc := 36) (tgt := 4) dE_daysTogether_36 (by decide) ?_
      exact H
    · have H := H.2 c3
      show Wq 2 0 0 mE_daysTogether 18 [iR 12, iI x1, iI x2, iI x3] [vI 0, vI x2] M _
      obtain ⟨⟨s7, s8⟩, H⟩ := H
      refine wq_if_eq (pc := 18) (tgt := 30) dE_daysTogether_18 (by decide) (fun _ => ?_) (fun q => absurd (by decide) q)
      refine wq_iconst (pc := 30) dE_daysTogether_30 rfl ?_
      refine wq_iadd (pc := 31) dE_daysTogether_31 ?_
      refine wq_re (x := (wr (x2 + 0))) (y := x2) (Eq.trans (wr_eq (by omega) (by omega)) (by omega)) ?_
      refine wq_istore_n (pc := 32) (lo' := [iR 12, iI x1, iI x2, iI x3]) dE_daysTogether_32 rfl rfl rfl ?_
      refine wq_iinc (pc := 33) (lo' := [iR 12, iI x1, iI x2, iI (x3 + 1)]) dE_daysTogether_33 rfl rfl (by rw [show wr (x3 + 1) = x3 + 1 from (Eq.trans (wr_eq (by omega) (by omega)) (by omega))]; rfl) ?_
      refine wq_goto (pc := 36) (tgt := 4) dE_daysTogether_36 (by decide) ?_
      exact H
