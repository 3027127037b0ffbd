set_option maxRecDepth 20000 in
theorem B_D_endHurried_70_0 {x2 : Int} {M : Mm} {Q : Mm → Option Mv → Prop} (hS : RefOK M) (H : Wq 2 0 0 mP_load 0 [iR 59, iR 1, iI x2, none, none, none] [] M (fun M' v => Wq 4 0 0 mD_endHurried 12 [iR 0, iR 70, iI x2, none] (v.toList ++ []) M' Q)) : Wq 4 0 0 mD_endHurried 0 [iR 0, iR 70, iI x2, none] [] M Q := by
  refine wq_aload_n (pc := 0) dD_endHurried_0 rfl rfl ?_
  refine wq_getR (pc := 1) (z := 2) (b := 59) dD_endHurried_1 fO_D_22 sh_0 rfl rfl (rf_0_2 hS) ?_
  refine wq_aload_n (pc := 4) dD_endHurried_4 rfl rfl ?_
  refine wq_getR (pc := 5) (z := 0) (b := 1) dD_endHurried_5 fO_D_12 sh_0 rfl rfl (rf_0_0 hS) ?_
  refine wq_iload_n (pc := 8) dD_endHurried_8 rfl rfl ?_
  refine wq_callV (d' := 2) (pc := 9) (as := [vR 1, vI x2]) (rest := []) (lo' := [iR 59, iR 1, iI x2, none, none, none]) dD_endHurried_9 mO_P_load lV_D_348 sh_59 (by decide) cl_4 rfl rfl rfl rfl rfl rfl ?_
  exact H

set_option maxRecDepth 20000 in
theorem B_D_endHurried_70_12 {x2 : Int} {M : Mm} {Q : Mm → Option Mv → Prop} (H : Wq 4 0 0 mD_endHurried 14 [iR 0, iR 70, iI x2, iI 0] [] M Q) : Wq 4 0 0 mD_endHurried 12 [iR 0, iR 70, iI x2, none] [] M Q := by
  refine wq_iconst (pc := 12) dD_endHurried_12 rfl ?_
  refine wq_istore_n (pc := 13) (lo' := [iR 0, iR 70, iI x2, iI 0]) dD_endHurried_13 rfl rfl rfl ?_
  exact H

set_option maxRecDepth 20000 in
theorem B_D_endHurried_70_14 {x2 x3 : Int} {M : Mm} {Q : Mm → Option Mv → Prop} (hS : RefOK M) (H : ((gI M 26 3 ≤ x3 → Wq 3 0 0 mP_run 0 [iR 59, iR 1, none, none, none, none] [] M (fun M' v => Wq 4 0 0 mD_endHurried 71 [iR 0, iR 70, iI x2, iI x3] (v.toList ++ []) M' Q)) ∧ (¬ gI M 26 3 ≤ x3 → (((0 ≤ x3 ∧ x3 < 5) ∧ (0 ≤ gI M 27 x3 ∧ gI M 27 x3 < 16) ∧ (-2147483648 ≤ gI M 60 (gI M 27 x3) - gI M 70 x3 ∧ gI M 60 (gI M 27 x3) - gI M 70 x3 < 2147483648) ∧ (-2147483648 ≤ x3 + 1 ∧ x3 + 1 < 2147483648)) ∧ Wq 4 0 0 mD_endHurried 14 [iR 0, iR 70, iI x2, iI (x3 + 1)] [] (sI M 60 (gI M 27 x3) (gI M 60 (gI M 27 x3) - gI M 70 x3)) Q)))) : Wq 4 0 0 mD_endHurried 14 [iR 0, iR 70, iI x2, iI x3] [] M Q := by
  refine wq_iload_n (pc := 14) dD_endHurried_14 rfl rfl ?_
  refine wq_aload_n (pc := 15) dD_endHurried_15 rfl rfl ?_
  refine wq_getR (pc := 16) (z := 0) (b := 1) dD_endHurried_16 fO_D_12 sh_0 rfl rfl (rf_0_0 hS) ?_
  refine wq_getR (pc := 19) (z := 4) (b := 26) dD_endHurried_19 fO_D_102 sh_1 rfl rfl (rf_1_4 hS) ?_
  refine wq_getI (pc := 22) (z := 3) dD_endHurried_22 fO_D_278 sh_26 rfl rfl ?_
  refine wq_icmp_ge (pc := 25) (tgt := 60) dD_endHurried_25 (by decide) (fun c1 => ?_) (fun c1 => ?_)
  · have H := H.1 c1
    refine wq_aload_n (pc := 60) dD_endHurried_60 rfl rfl ?_
    refine wq_getR (pc := 61) (z := 2) (b := 59) dD_endHurried_61 fO_D_22 sh_0 rfl rfl (rf_0_2 hS) ?_
    refine wq_aload_n (pc := 64) dD_endHurried_64 rfl rfl ?_
    refine wq_getR (pc := 65) (z := 0) (b := 1) dD_endHurried_65 fO_D_12 sh_0 rfl rfl (rf_0_0 hS) ?_
    refine wq_callV (d' := 3) (pc := 68) (as := [vR 1]) (rest := []) (lo' := [iR 59, iR 1, none, none, none, none]) dD_endHurried_68 mO_P_run lV_D_352 sh_59 (by decide) cl_4 rfl rfl rfl rfl rfl rfl ?_
    exact H
  · have H := H.2 c1
    obtain ⟨⟨s2, s3, s4, s5⟩, H⟩ := H
    refine wq_aload_n (pc := 28) dD_endHurried_28 rfl rfl ?_
    refine wq_getR (pc := 29) (z := 2) (b := 59) dD_endHurried_29 fO_D_22 sh_0 rfl rfl (rf_0_2 hS) ?_
    refine wq_getR (pc := 32) (z := 0) (b := 60) dD_endHurried_32 fO_D_356 sh_59 rfl rfl (rf_59_0 hS) ?_
    refine wq_aload_n (pc := 35) dD_endHurried_35 rfl rfl ?_
    refine wq_getR (pc := 36) (z := 0) (b := 1) dD_endHurried_36 fO_D_12 sh_0 rfl rfl (rf_0_0 hS) ?_
    refine wq_getR (pc := 39) (z := 4) (b := 26) dD_endHurried_39 fO_D_102 sh_1 rfl rfl (rf_1_4 hS) ?_
    refine wq_getR (pc := 42) (z := 0) (b := 27) dD_endHurried_42 fO_D_394 sh_26 rfl rfl (rf_26_0 hS) ?_
    refine wq_iload_n (pc := 45) dD_endHurried_45 rfl rfl ?_
    refine wq_iald (pc := 46) dD_endHurried_46 sh_27 s2.1 s2.2 ?_
    refine wq_dup2 (pc := 47) dD_endHurried_47 rfl rfl ?_
    refine wq_iald (pc := 48) dD_endHurried_48 sh_60 s3.1 s3.2 ?_
    refine wq_aload_n (pc := 49) dD_endHurried_49 rfl rfl ?_
    refine wq_iload_n (pc := 50) dD_endHurried_50 rfl rfl ?_
    refine wq_iald (pc := 51) dD_endHurried_51 sh_70 s2.1 s2.2 ?_
    refine wq_isub (pc := 52) dD_endHurried_52 ?_
    refine wq_re (x := (wr (gI M 60 (gI M 27 x3) - gI M 70 x3))) (y := (gI M 60 (gI M 27 x3) - gI M 70 x3)) (Eq.trans (wr_eq (by omega) (by omega)) (by omega)) ?_
    refine wq_iast (pc := 53) dD_endHurried_53 sh_60 (by decide) s3.1 s3.2 ?_
    refine wq_iinc (pc := 54) (lo' := [iR 0, iR 70, iI x2, iI (x3 + 1)]) dD_endHurried_54 rfl rfl (by rw [show wr (x3 + 1) = x3 + 1 from (Eq.trans (wr_eq (by omega) (by omega)) (by omega))]; rfl) ?_
    refine wq_goto (pc := 57) (tgt := 14) dD_endHurried_57 (by decide) ?_
    exact H

set_option maxRecDepth 20000 in
theorem B_D_endHurried_70_71 {x2 x3 y0 : Int} {M : Mm} {Q : Mm → Option Mv → Prop} (H : Q M (some (vI y0))) : Wq 4 0 0 mD_endHurried 71 [iR 0, iR 70, iI x2, iI x3] [vI y0] M Q := by
  refine wq_ireturn (pc := 71) dD_endHurried_71 trivial ?_
  exact H
set_option maxRecDepth 20000 in
theorem B_H_sumOf_70_0 {M : Mm} {Q : Mm → Option Mv → Prop} (H : Wq 1 0 0 mH_sumOf 4 [iR 26, iR 70, iI 0, iI 0] [] M Q) : Wq 1 0 0 mH_sumOf 0 [iR 26, iR 70, none, none] [] M Q := by
  refine wq_iconst (pc := 0) dH_sumOf_0 rfl ?_
  refine wq_istore_n (pc := 1) (lo' := [iR 26, iR 70, iI 0, none]) dH_sumOf_1 rfl rfl rfl ?_
  refine wq_iconst (pc := 2) dH_sumOf_2 rfl ?_
  refine wq_istore_n (pc := 3) (lo' := [iR 26, iR 70, iI 0, iI 0]) dH_sumOf_3 rfl rfl rfl ?_
  exact H

set_option maxRecDepth 20000 in
theorem B_H_sumOf_70_4 {x2 x3 : Int} {M : Mm} {Q : Mm → Option Mv → Prop} (hS : RefOK M) (H : ((gI M 26 3 ≤ x3 → Q M (some (vI x2))) ∧ (¬ gI M 26 3 ≤ x3 → (((0 ≤ x3 ∧ x3 < 5) ∧ (-2147483648 ≤ x2 + gI M 70 x3 * gI M 29 x3 ∧ x2 + gI M 70 x3 * gI M 29 x3 < 2147483648) ∧ (-2147483648 ≤ x3 + 1 ∧ x3 + 1 < 2147483648)) ∧ Wq 1 0 0 mH_sumOf 4 [iR 26, iR 70, iI (x2 + gI M 70 x3 * gI M 29 x3), iI (x3 + 1)] [] M Q)))) : Wq 1 0 0 mH_sumOf 4 [iR 26, iR 70, iI x2, iI x3] [] M Q := by
  refine wq_iload_n (pc := 4) dH_sumOf_4 rfl rfl ?_
  refine wq_aload_n (pc := 5) dH_sumOf_5 rfl rfl ?_
  refine wq_getI (pc := 6) (z := 3) dH_sumOf_6 fO_H_21 sh_26 rfl rfl ?_
  refine wq_icmp_ge (pc := 9) (tgt := 31) dH_sumOf_9 (by decide) (fun c1 => ?_) (fun c1 => ?_)
  · have H := H.1 c1
    refine wq_iload_n (pc := 31) dH_sumOf_31 rfl rfl ?_
    refine wq_ireturn (pc := 32) dH_sumOf_32 trivial ?_
    exact H
  · have H := H.2 c1
    obtain ⟨⟨s2, s3, s4⟩, H⟩ := H
    refine wq_iload_n (pc := 12) dH_sumOf_12 rfl rfl ?_
    refine wq_aload_n (pc := 13) dH_sumOf_13 rfl rfl ?_
    refine wq_iload_n (pc := 14) dH_sumOf_14 rfl rfl ?_
    refine wq_iald (pc := 15) dH_sumOf_15 sh_70 s2.1 s2.2 ?_
    refine wq_aload_n (pc := 16) dH_sumOf_16 rfl rfl ?_
    refine wq_getR (pc := 17) (z := 2) (b := 29) dH_sumOf_17 fO_H_18 sh_26 rfl rfl (rf_26_2 hS) ?_
    refine wq_iload_n (pc := 20) dH_sumOf_20 rfl rfl ?_
    refine wq_iald (pc := 21) dH_sumOf_21 sh_29 s2.1 s2.2 ?_
    refine wq_imul (pc := 22) dH_sumOf_22 ?_
    refine wq_iadd (pc := 23) dH_sumOf_23 ?_
    refine wq_re (x := (wr (x2 + wr (gI M 70 x3 * gI M 29 x3)))) (y := (x2 + gI M 70 x3 * gI M 29 x3)) (by (try simp only [wr_al, wr_ar, wr_sl, wr_sr, wr_ml, wr_mr, wr_nn, wr_ww]); exact Eq.trans (wr_eq (by omega) (by omega)) (by omega)) ?_
    refine wq_istore_n (pc := 24) (lo' := [iR 26, iR 70, iI (x2 + gI M 70 x3 * gI M 29 x3), iI x3]) dH_sumOf_24 rfl rfl rfl ?_
    refine wq_iinc (pc := 25) (lo' := [iR 26, iR 70, iI (x2 + gI M 70 x3 * gI M 29 x3), iI (x3 + 1)]) dH_sumOf_25 rfl rfl (by rw [show wr (x3 + 1) = x3 + 1 from (Eq.trans (wr_eq (by omega) (by omega)) (by omega))]; rfl) ?_
    refine wq_goto (pc := 28) (tgt := 4) dH_sumOf_28 (by decide) ?_
    exact H
set_option maxRecDepth 20000 in
theorem B_D_endHurried_73_0 {x2 : Int} {M : Mm} {Q : Mm → Option Mv → Prop} (hS : RefOK M) (H : Wq 2 0 0 mP_load 0 [iR 59, iR 1, iI x2, none, none, none] [] M (fun M' v => Wq 4 0 0 mD_endHurried 12 [iR 0, iR 73, iI x2, none] (v.toList ++ []) M' Q)) : Wq 4 0 0 mD_endHurried 0 [iR 0, iR 73, iI x2, none] [] M Q := by
  refine wq_aload_n (pc := 0) dD_endHurried_0 rfl rfl ?_
  refine wq_getR (pc := 1) (z := 2) (b := 59) dD_endHurried_1 fO_D_22 sh_0 rfl rfl (rf_0_2 hS) ?_
  refine wq_aload_n (pc := 4) dD_endHurried_4 rfl rfl ?_
  refine wq_getR (pc := 5) (z := 0) (b := 1) dD_endHurried_5 fO_D_12 sh_0 rfl rfl (rf_0_0 hS) ?_
  refine wq_iload_n (pc := 8) dD_endHurried_8 rfl rfl ?_
  refine wq_callV (d' := 2) (pc := 9) (as := [vR 1, vI x2]) (rest := []) (lo' := [iR 59, iR 1, iI x2, none, none, none]) dD_endHurried_9 mO_P_load lV_D_348 sh_59 (by decide) cl_4 rfl rfl rfl rfl rfl rfl ?_
  exact H

set_option maxRecDepth 20000 in
theorem B_D_endHurried_73_12 {x2 : Int} {M : Mm} {Q : Mm → Option Mv → Prop} (H : Wq 4 0 0 mD_endHurried 14 [iR 0, iR 73, iI x2, iI 0] [] M Q) : Wq 4 0 0 mD_endHurried 12 [iR 0, iR 73, iI x2, none] [] M Q := by
  refine wq_iconst (pc := 12) dD_endHurried_12 rfl ?_
  refine wq_istore_n (pc := 13) (lo' := [iR 0, iR 73, iI x2, iI 0]) dD_endHurried_13 rfl rfl rfl ?_
  exact H

set_option maxRecDepth 20000 in
theorem B_D_endHurried_73_14 {x2 x3 : Int} {M : Mm} {Q : Mm → Option Mv → Prop} (hS : RefOK M) (H : ((gI M 26 3 ≤ x3 → Wq 3 0 0 mP_run 0 [iR 59, iR 1, none, none, none, none] [] M (fun M' v => Wq 4 0 0 mD_endHurried 71 [iR 0, iR 73, iI x2, iI x3] (v.toList ++ []) M' Q)) ∧ (¬ gI M 26 3 ≤ x3 → (((0 ≤ x3 ∧ x3 < 5) ∧ (0 ≤ gI M 27 x3 ∧ gI M 27 x3 < 16) ∧ (0 ≤ x3 ∧ x3 < 24) ∧ (-2147483648 ≤ gI M 60 (gI M 27 x3) - gI M 73 x3 ∧ gI M 60 (gI M 27 x3) - gI M 73 x3 < 2147483648) ∧ (-2147483648 ≤ x3 + 1 ∧ x3 + 1 < 2147483648)) ∧ Wq 4 0 0 mD_endHurried 14 [iR 0, iR 73, iI x2, iI (x3 + 1)] [] (sI M 60 (gI M 27 x3) (gI M 60 (gI M 27 x3) - gI M 73 x3)) Q)))) : Wq 4 0 0 mD_endHurried 14 [iR 0, iR 73, iI x2, iI x3] [] M Q := by
  refine wq_iload_n (pc := 14) dD_endHurried_14 rfl rfl ?_
  refine wq_aload_n (pc := 15) dD_endHurried_15 rfl rfl ?_
  refine wq_getR (pc := 16) (z := 0) (b := 1) dD_endHurried_16 fO_D_12 sh_0 rfl rfl (rf_0_0 hS) ?_
  refine wq_getR (pc := 19) (z := 4) (b := 26) dD_endHurried_19 fO_D_102 sh_1 rfl rfl (rf_1_4 hS) ?_
  refine wq_getI (pc := 22) (z := 3) dD_endHurried_22 fO_D_278 sh_26 rfl rfl ?_
  refine wq_icmp_ge (pc := 25) (tgt := 60) dD_endHurried_25 (by decide) (fun c1 => ?_) (fun c1 => ?_)
  · have H := H.1 c1
    refine wq_aload_n (pc := 60) dD_endHurried_60 rfl rfl ?_
    refine wq_getR (pc := 61) (z := 2) (b := 59) dD_endHurried_61 fO_D_22 sh_0 rfl rfl (rf_0_2 hS) ?_
    refine wq_aload_n (pc := 64) dD_endHurried_64 rfl rfl ?_
    refine wq_getR (pc := 65) (z := 0) (b := 1) dD_endHurried_65 fO_D_12 sh_0 rfl rfl (rf_0_0 hS) ?_
    refine wq_callV (d' := 3) (pc := 68) (as := [vR 1]) (rest := []) (lo' := [iR 59, iR 1, none, none, none, none]) dD_endHurried_68 mO_P_run lV_D_352 sh_59 (by decide) cl_4 rfl rfl rfl rfl rfl rfl ?_
    exact H
  · have H := H.2 c1
    obtain ⟨⟨s2, s3, s4, s5, s6⟩, H⟩ := H
    refine wq_aload_n (pc := 28) dD_endHurried_28 rfl rfl ?_
    refine wq_getR (pc := 29) (z := 2) (b := 59) dD_endHurried_29 fO_D_22 sh_0 rfl rfl (rf_0_2 hS) ?_
    refine wq_getR (pc := 32) (z := 0) (b := 60) dD_endHurried_32 fO_D_356 sh_59 rfl rfl (rf_59_0 hS) ?_
    refine wq_aload_n (pc := 35) dD_endHurried_35 rfl rfl ?_
    refine wq_getR (pc := 36) (z := 0) (b := 1) dD_endHurried_36 fO_D_12 sh_0 rfl rfl (rf_0_0 hS) ?_
    refine wq_getR (pc := 39) (z := 4) (b := 26) dD_endHurried_39 fO_D_102 sh_1 rfl rfl (rf_1_4 hS) ?_
    refine wq_getR (pc := 42) (z := 0) (b := 27) dD_endHurried_42 fO_D_394 sh_26 rfl rfl (rf_26_0 hS) ?_
    refine wq_iload_n (pc := 45) dD_endHurried_45 rfl rfl ?_
    refine wq_iald (pc := 46) dD_endHurried_46 sh_27 s2.1 s2.2 ?_
    refine wq_dup2 (pc := 47) dD_endHurried_47 rfl rfl ?_
    refine wq_iald (pc := 48) dD_endHurried_48 sh_60 s3.1 s3.2 ?_
    refine wq_aload_n (pc := 49) dD_endHurried_49 rfl rfl ?_
    refine wq_iload_n (pc := 50) dD_endHurried_50 rfl rfl ?_
    refine wq_iald (pc := 51) dD_endHurried_51 sh_73 s4.1 s4.2 ?_
    refine wq_isub (pc := 52) dD_endHurried_52 ?_
    refine wq_re (x := (wr (gI M 60 (gI M 27 x3) - gI M 73 x3))) (y := (gI M 60 (gI M 27 x3) - gI M 73 x3)) (Eq.trans (wr_eq (by omega) (by omega)) (by omega)) ?_
    refine wq_iast (pc := 53) dD_endHurried_53 sh_60 (by decide) s3.1 s3.2 ?_
    refine wq_iinc (pc := 54) (lo' := [iR 0, iR 73, iI x2, iI (x3 + 1)]) dD_endHurried_54 rfl rfl (by rw [show wr (x3 + 1) = x3 + 1 from (Eq.trans (wr_eq (by omega) (by omega)) (by omega))]; rfl) ?_
    refine wq_goto (pc := 57) (tgt := 14) dD_endHurried_57 (by decide) ?_
    exact H

set_option maxRecDepth 20000 in
theorem B_D_endHurried_73_71 {x2 x3 y0 : Int} {M : Mm} {Q : Mm → Option Mv → Prop} (H : Q M (some (vI y0))) : Wq 4 0 0 mD_endHurried 71 [iR 0, iR 73, iI x2, iI x3] [vI y0] M Q := by
  refine wq_ireturn (pc := 71) dD_endHurried_71 trivial ?_
  exact H
set_option maxRecDepth 20000 in
theorem B_H_sumOf_73_0 {M : Mm} {Q : Mm → Option Mv → Prop} (H : Wq 1 0 0 mH_sumOf 4 [iR 26, iR 73, iI 0, iI 0] [] M Q) : Wq 1 0 0 mH_sumOf 0 [iR 26, iR 73, none, none] [] M Q := by
  refine wq_iconst (pc := 0) dH_sumOf_0 rfl ?_
  refine wq_istore_n (pc := 1) (lo' := [iR 26, iR 73, iI 0, none]) dH_sumOf_1 rfl rfl rfl ?_
  refine wq_iconst (pc := 2) dH_sumOf_2 rfl ?_
  refine wq_istore_n (pc := 3) (lo' := [iR 26, iR 73, iI 0, iI 0]) dH_sumOf_3 rfl rfl rfl ?_
  exact H

set_option maxRecDepth 20000 in
theorem B_H_sumOf_73_4 {x2 x3 : Int} {M : Mm} {Q : Mm → Option Mv → Prop} (hS : RefOK M) (H : ((gI M 26 3 ≤ x3 → Q M (some (vI x2))) ∧ (¬ gI M 26 3 ≤ x3 → (((0 ≤ x3 ∧ x3 < 24) ∧ (0 ≤ x3 ∧ x3 < 5) ∧ (-2147483648 ≤ x2 + gI M 73 x3 * gI M 29 x3 ∧ x2 + gI M 73 x3 * gI M 29 x3 < 2147483648) ∧ (-2147483648 ≤ x3 + 1 ∧ x3 + 1 < 2147483648)) ∧ Wq 1 0 0 mH_sumOf 4 [iR 26, iR 73, iI (x2 + gI M 73 x3 * gI M 29 x3), iI (x3 + 1)] [] M Q)))) : Wq 1 0 0 mH_sumOf 4 [iR 26, iR 73, iI x2, iI x3] [] M Q := by
  refine wq_iload_n (pc := 4) dH_sumOf_4 rfl rfl ?_
  refine wq_aload_n (pc := 5) dH_sumOf_5 rfl rfl ?_
  refine wq_getI (pc := 6) (z := 3) dH_sumOf_6 fO_H_21 sh_26 rfl rfl ?_
  refine wq_icmp_ge (pc := 9) (tgt := 31) dH_sumOf_9 (by decide) (fun c1 => ?_) (fun c1 => ?_)
  · have H := H.1 c1
    refine wq_iload_n (pc := 31) dH_sumOf_31 rfl rfl ?_
    refine wq_ireturn (pc := 32) dH_sumOf_32 trivial ?_
    exact H
  · have H := H.2 c1
    obtain ⟨⟨s2, s3, s4, s5⟩, H⟩ := H
    refine wq_iload_n (pc := 12) dH_sumOf_12 rfl rfl ?_
    refine wq_aload_n (pc := 13) dH_sumOf_13 rfl rfl ?_
    refine wq_iload_n (pc := 14) dH_sumOf_14 rfl rfl ?_
    refine wq_iald (pc := 15) dH_sumOf_15 sh_73 s2.1 s2.2 ?_
    refine wq_aload_n (pc := 16) dH_sumOf_16 rfl rfl ?_
    refine wq_getR (pc := 17) (z := 2) (b := 29) dH_sumOf_17 fO_H_18 sh_26 rfl rfl (rf_26_2 hS) ?_
    refine wq_iload_n (pc := 20) dH_sumOf_20 rfl rfl ?_
    refine wq_iald (pc := 21) dH_sumOf_21 sh_29 s3.1 s3.2 ?_
    refine wq_imul (pc := 22) dH_sumOf_22 ?_
    refine wq_iadd (pc := 23) dH_sumOf_23 ?_
    refine wq_re (x := (wr (x2 + wr (gI M 73 x3 * gI M 29 x3)))) (y := (x2 + gI M 73 x3 * gI M 29 x3)) (by (try simp only [wr_al, wr_ar, wr_sl, wr_sr, wr_ml, wr_mr, wr_nn, wr_ww]); exact Eq.trans (wr_eq (by omega) (by omega)) (by omega)) ?_
    refine wq_istore_n (pc := 24) (lo' := [iR 26, iR 73, iI (x2 + gI M 73 x3 * gI M 29 x3), iI x3]) dH_sumOf_24 rfl rfl rfl ?_
    refine wq_iinc (pc := 25) (lo' := [iR 26, iR 73, iI (x2 + gI M 73 x3 * gI M 29 x3), iI (x3 + 1)]) dH_sumOf_25 rfl rfl (by rw [show wr (x3 + 1) = x3 + 1 from (Eq.trans (wr_eq (by omega) (by omega)) (by omega))]; rfl) ?_
    refine wq_goto (pc := 28) (tgt := 4) dH_sumOf_28 (by decide) ?_
    exact H
set_option maxRecDepth 20000 in
theorem B_D_endHurried_75_0 {x2 : Int} {M : Mm} {Q : Mm → Option Mv → Prop} (hS : RefOK M) (H : Wq 2 0 0 mP_load 0 [iR 59, iR 1, iI x2, none, none, none] [] M (fun M' v => Wq 4 0 0 mD_endHurried 12 [iR 0, iR 75, iI x2, none] (v.toList ++ []) M' Q)) : Wq 4 0 0 mD_endHurried 0 [iR 0, iR 75, iI x2, none] [] M Q := by
  refine wq_aload_n (pc := 0) dD_endHurried_0 rfl rfl ?_
  refine wq_getR (pc := 1) (z := 2) (b := 59) dD_endHurried_1 fO_D_22 sh_0 rfl rfl (rf_0_2 hS) ?_
  refine wq_aload_n (pc := 4) dD_endHurried_4 rfl rfl ?_
  refine wq_getR (pc := 5) (z := 0) (b := 1) dD_endHurried_5 fO_D_12 sh_0 rfl rfl (rf_0_0 hS) ?_
  refine wq_iload_n (pc := 8) dD_endHurried_8 rfl rfl ?_
  refine wq_callV (d' := 2) (pc := 9) (as := [vR 1, vI x2]) (rest := []) (lo' := [iR 59, iR 1, iI x2, none, none, none]) dD_endHurried_9 mO_P_load lV_D_348 sh_59 (by decide) cl_4 rfl rfl rfl rfl rfl rfl ?_
  exact H

set_option maxRecDepth 20000 in
theorem B_D_endHurried_75_12 {x2 : Int} {M : Mm} {Q : Mm → Option Mv → Prop} (H : Wq 4 0 0 mD_endHurried 14 [iR 0, iR 75, iI x2, iI 0] [] M Q) : Wq 4 0 0 mD_endHurried 12 [iR 0, iR 75, iI x2, none] [] M Q := by
  refine wq_iconst (pc := 12) dD_endHurried_12 rfl ?_
  refine wq_istore_n (pc := 13) (lo' := [iR 0, iR 75, iI x2, iI 0]) dD_endHurried_13 rfl rfl rfl ?_
  exact H

set_option maxRecDepth 20000 in
theorem B_D_endHurried_75_14 {x2 x3 : Int} {M : Mm} {Q : Mm → Option Mv → Prop} (hS : RefOK M) (H : ((gI M 26 3 ≤ x3 → Wq 3 0 0 mP_run 0 [iR 59, iR 1, none, none, none, none] [] M (fun M' v => Wq 4 0 0 mD_endHurried 71 [iR 0, iR 75, iI x2, iI x3] (v.toList ++ []) M' Q)) ∧ (¬ gI M 26 3 ≤ x3 → (((0 ≤ x3 ∧ x3 < 5) ∧ (0 ≤ gI M 27 x3 ∧ gI M 27 x3 < 16) ∧ (0 ≤ x3 ∧ x3 < 24) ∧ (-2147483648 ≤ gI M 60 (gI M 27 x3) - gI M 75 x3 ∧ gI M 60 (gI M 27 x3) - gI M 75 x3 < 2147483648) ∧ (-2147483648 ≤ x3 + 1 ∧ x3 + 1 < 2147483648)) ∧ Wq 4 0 0 mD_endHurried 14 [iR 0, iR 75, iI x2, iI (x3 + 1)] [] (sI M 60 (gI M 27 x3) (gI M 60 (gI M 27 x3) - gI M 75 x3)) Q)))) : Wq 4 0 0 mD_endHurried 14 [iR 0, iR 75, iI x2, iI x3] [] M Q := by
  refine wq_iload_n (pc := 14) dD_endHurried_14 rfl rfl ?_
  refine wq_aload_n (pc := 15) dD_endHurried_15 rfl rfl ?_
  refine wq_getR (pc := 16) (z := 0) (b := 1) dD_endHurried_16 fO_D_12 sh_0 rfl rfl (rf_0_0 hS) ?_
  refine wq_getR (pc := 19) (z := 4) (b := 26) dD_endHurried_19 fO_D_102 sh_1 rfl rfl (rf_1_4 hS) ?_
  refine wq_getI (pc := 22) (z := 3) dD_endHurried_22 fO_D_278 sh_26 rfl rfl ?_
  refine wq_icmp_ge (pc := 25) (tgt := 60) dD_endHurried_25 (by decide) (fun c1 => ?_) (fun c1 => ?_)
  · have H := H.1 c1
    refine wq_aload_n (pc := 60) dD_endHurried_60 rfl rfl ?_
    refine wq_getR (pc := 61) (z := 2) (b := 59) dD_endHurried_61 fO_D_22 sh_0 rfl rfl (rf_0_2 hS) ?_
    refine wq_aload_n (pc := 64) dD_endHurried_64 rfl rfl ?_
    refine wq_getR (pc := 65) (z := 0) (b := 1) dD_endHurried_65 fO_D_12 sh_0 rfl rfl (rf_0_0 hS) ?_
    refine wq_callV (d' := 3) (pc := 68) (as := [vR 1]) (rest := []) (lo' := [iR 59, iR 1, none, none, none, none]) dD_endHurried_68 mO_P_run lV_D_352 sh_59 (by decide) cl_4 rfl rfl rfl rfl rfl rfl ?_
    exact H
  · have H := H.2 c1
    obtain ⟨⟨s2, s3, s4, s5, s6⟩, H⟩ := H
    refine wq_aload_n (pc := 28) dD_endHurried_28 rfl rfl ?_
    refine wq_getR (pc := 29) (z := 2) (b := 59) dD_endHurried_29 fO_D_22 sh_0 rfl rfl (rf_0_2 hS) ?_
    refine wq_getR (pc := 32) (z := 0) (b := 60) dD_endHurried_32 fO_D_356 sh_59 rfl rfl (rf_59_0 hS) ?_
    refine wq_aload_n (pc := 35) dD_endHurried_35 rfl rfl ?_
    refine wq_getR (pc := 36) (z := 0) (b := 1) dD_endHurried_36 fO_D_12 sh_0 rfl rfl (rf_0_0 hS) ?_
    refine wq_getR (pc := 39) (z := 4) (b := 26) dD_endHurried_39 fO_D_102 sh_1 rfl rfl (rf_1_4 hS) ?_
    refine wq_getR (pc := 42) (z := 0) (b := 27) dD_endHurried_42 fO_D_394 sh_26 rfl rfl (rf_26_0 hS) ?_
    refine wq_iload_n (pc := 45) dD_endHurried_45 rfl rfl ?_
    refine wq_iald (pc := 46) dD_endHurried_46 sh_27 s2.1 s2.2 ?_
    refine wq_dup2 (pc := 47) dD_endHurried_47 rfl rfl ?_
    refine wq_iald (pc := 48) dD_endHurried_48 sh_60 s3.1 s3.2 ?_
    refine wq_aload_n (pc := 49) dD_endHurried_49 rfl rfl ?_
    refine wq_iload_n (pc := 50) dD_endHurried_50 rfl rfl ?_
    refine wq_iald (pc := 51) dD_endHurried_51 sh_75 s4.1 s4.2 ?_
    refine wq_isub (pc := 52) dD_endHurried_52 ?_
    refine wq_re (x := (wr (gI M 60 (gI M 27 x3) - gI M 75 x3))) (y := (gI M 60 (gI M 27 x3) - gI M 75 x3)) (Eq.trans (wr_eq (by omega) (by omega)) (by omega)) ?_
    refine wq_iast (pc := 53) dD_endHurried_53 sh_60 (by decide) s3.1 s3.2 ?_
    refine wq_iinc (pc := 54) (lo' := [iR 0, iR 75, iI x2, iI (x3 + 1)]) dD_endHurried_54 rfl rfl (by rw [show wr (x3 + 1) = x3 + 1 from (Eq.trans (wr_eq (by omega) (by omega)) (by omega))]; rfl) ?_
    refine wq_goto (pc := 57) (tgt := 14) dD_endHurried_57 (by decide) ?_
    exact H

set_option maxRecDepth 20000 in
theorem B_D_endHurried_75_71 {x2 x3 y0 : Int} {M : Mm} {Q : Mm → Option Mv → Prop} (H : Q M (some (vI y0))) : Wq 4 0 0 mD_endHurried 71 [iR 0, iR 75, iI x2, iI x3] [vI y0] M Q := by
  refine wq_ireturn (pc := 71) dD_endHurried_71 trivial ?_
  exact H
set_option maxRecDepth 20000 in
theorem B_H_sumOf_75_0 {M : Mm} {Q : Mm → Option Mv → Prop} (H : Wq 1 0 0 mH_sumOf 4 [iR 26, iR 75, iI 0, iI 0] [] M Q) : Wq 1 0 0 mH_sumOf 0 [iR 26, iR 75, none, none] [] M Q := by
  refine wq_iconst (pc := 0) dH_sumOf_0 rfl ?_
  refine wq_istore_n (pc := 1) (lo' := [iR 26, iR 75, iI 0, none]) dH_sumOf_1 rfl rfl rfl ?_
  refine wq_iconst (pc := 2) dH_sumOf_2 rfl ?_
  refine wq_istore_n (pc := 3) (lo' := [iR 26, iR 75, iI 0, iI 0]) dH_sumOf_3 rfl rfl rfl ?_
  exact H

set_option maxRecDepth 20000 in
theorem B_H_sumOf_75_4 {x2 x3 : Int} {M : Mm} {Q : Mm → Option Mv → Prop} (hS : RefOK M) (H : ((gI M 26 3 ≤ x3 → Q M (some (vI x2))) ∧ (¬ gI M 26 3 ≤ x3 → (((0 ≤ x3 ∧ x3 < 24) ∧ (0 ≤ x3 ∧ x3 < 5) ∧ (-2147483648 ≤ x2 + gI M 75 x3 * gI M 29 x3 ∧ x2 + gI M 75 x3 * gI M 29 x3 < 2147483648) ∧ (-2147483648 ≤ x3 + 1 ∧ x3 + 1 < 2147483648)) ∧ Wq 1 0 0 mH_sumOf 4 [iR 26, iR 75, iI (x2 + gI M 75 x3 * gI M 29 x3), iI (x3 + 1)] [] M Q)))) : Wq 1 0 0 mH_sumOf 4 [iR 26, iR 75, iI x2, iI x3] [] M Q := by
  refine wq_iload_n (pc := 4) dH_sumOf_4 rfl rfl ?_
  refine wq_aload_n (pc := 5) dH_sumOf_5 rfl rfl ?_
  refine wq_getI (pc := 6) (z := 3) dH_sumOf_6 fO_H_21 sh_26 rfl rfl ?_
  refine wq_icmp_ge (pc := 9) (tgt := 31) dH_sumOf_9 (by decide) (fun c1 => ?_) (fun c1 => ?_)
  · have H := H.1 c1
    refine wq_iload_n (pc := 31) dH_sumOf_31 rfl rfl ?_
    refine wq_ireturn (pc := 32) dH_sumOf_32 trivial ?_
    exact H
  · have H := H.2 c1
    obtain ⟨⟨s2, s3, s4, s5⟩, H⟩ := H
    refine wq_iload_n (pc := 12) dH_sumOf_12 rfl rfl ?_
    refine wq_aload_n (pc := 13) dH_sumOf_13 rfl rfl ?_
    refine wq_iload_n (pc := 14) dH_sumOf_14 rfl rfl ?_
    refine wq_iald (pc := 15) dH_sumOf_15 sh_75 s2.1 s2.2 ?_
    refine wq_aload_n (pc := 16) dH_sumOf_16 rfl rfl ?_
    refine wq_getR (pc := 17) (z := 2) (b := 29) dH_sumOf_17 fO_H_18 sh_26 rfl rfl (rf_26_2 hS) ?_
    refine wq_iload_n (pc := 20) dH_sumOf_20 rfl rfl ?_
    refine wq_iald (pc := 21) dH_sumOf_21 sh_29 s3.1 s3.2 ?_
    refine wq_imul (pc := 22) dH_sumOf_22 ?_
    refine wq_iadd (pc := 23) dH_sumOf_23 ?_
    refine wq_re (x := (wr (x2 + wr (gI M 75 x3 * gI M 29 x3)))) (y := (x2 + gI M 75 x3 * gI M 29 x3)) (by (try simp only [wr_al, wr_ar, wr_sl, wr_sr, wr_ml, wr_mr, wr_nn, wr_ww]); exact Eq.trans (wr_eq (by omega) (by omega)) (by omega)) ?_
    refine wq_istore_n (pc := 24) (lo' := [iR 26, iR 75, iI (x2 + gI M 75 x3 * gI M 29 x3), iI x3]) dH_sumOf_24 rfl rfl rfl ?_
    refine wq_iinc (pc := 25) (lo' := [iR 26, iR 75, iI (x2 + gI M 75 x3 * gI M 29 x3), iI (x3 + 1)]) dH_sumOf_25 rfl rfl (by rw [show wr (x3 + 1) = x3 + 1 from (Eq.trans (wr_eq (by omega) (by omega)) (by omega))]; rfl) ?_
    refine wq_goto (pc := 28) (tgt := 4) dH_sumOf_28 (by decide) ?_
    exact H
set_option maxRecDepth 20000 in
theorem B_D_endHurried_77_0 {x2 : Int} {M : Mm} {Q : Mm → Option Mv → Prop} (hS : RefOK M) (H : Wq 2 0 0 mP_load 0 [iR 59, iR 1, iI x2, none, none, none] [] M (fun M' v => Wq 4 0 0 mD_endHurried 12 [iR 0, iR 77, iI x2, none] (v.toList ++ []) M' Q)) : Wq 4 0 0 mD_endHurried 0 [iR 0, iR 77, iI x2, none] [] M Q := by
  refine wq_aload_n (pc := 0) dD_endHurried_0 rfl rfl ?_
  refine wq_getR (pc := 1) (z := 2) (b := 59) dD_endHurried_1 fO_D_22 sh_0 rfl rfl (rf_0_2 hS) ?_
  refine wq_aload_n (pc := 4) dD_endHurried_4 rfl rfl ?_
  refine wq_getR (pc := 5) (z := 0) (b := 1) dD_endHurried_5 fO_D_12 sh_0 rfl rfl (rf_0_0 hS) ?_
  refine wq_iload_n (pc := 8) dD_endHurried_8 rfl rfl ?_
  refine wq_callV (d' := 2) (pc := 9) (as := [vR 1, vI x2]) (rest := []) (lo' := [iR 59, iR 1, iI x2, none, none, none]) dD_endHurried_9 mO_P_load lV_D_348 sh_59 (by decide) cl_4 rfl rfl rfl rfl rfl rfl ?_
  exact H

set_option maxRecDepth 20000 in
theorem B_D_endHurried_77_12 {x2 : Int} {M : Mm} {Q : Mm → Option Mv → Prop} (H : Wq 4 0 0 mD_endHurried 14 [iR 0, iR 77, iI x2, iI 0] [] M Q) : Wq 4 0 0 mD_endHurried 12 [iR 0, iR 77, iI x2, none] [] M Q := by
  refine wq_iconst (pc := 12) dD_endHurried_12 rfl ?_
  refine wq_istore_n (pc := 13) (lo' := [iR 0, iR 77, iI x2, iI 0]) dD_endHurried_13 rfl rfl rfl ?_
  exact H

set_option maxRecDepth 20000 in
theorem B_D_endHurried_77_14 {x2 x3 : Int} {M : Mm} {Q : Mm → Option Mv → Prop} (hS : RefOK M) (H : ((gI M 26 3 ≤ x3 → Wq 3 0 0 mP_run 0 [iR 59, iR 1, none, none, none, none] [] M (fun M' v => Wq 4 0 0 mD_endHurried 71 [iR 0, iR 77, iI x2, iI x3] (v.toList ++ []) M' Q)) ∧ (¬ gI M 26 3 ≤ x3 → (((0 ≤ x3 ∧ x3 < 5) ∧ (0 ≤ gI M 27 x3 ∧ gI M 27 x3 < 16) ∧ (0 ≤ x3 ∧ x3 < 24) ∧ (-2147483648 ≤ gI M 60 (gI M 27 x3) - gI M 77 x3 ∧ gI M 60 (gI M 27 x3) - gI M 77 x3 < 2147483648) ∧ (-2147483648 ≤ x3 + 1 ∧ x3 + 1 < 2147483648)) ∧ Wq 4 0 0 mD_endHurried 14 [iR 0, iR 77, iI x2, iI (x3 + 1)] [] (sI M 60 (gI M 27 x3) (gI M 60 (gI M 27 x3) - gI M 77 x3)) Q)))) : Wq 4 0 0 mD_endHurried 14 [iR 0, iR 77, iI x2, iI x3] [] M Q := by
  refine wq_iload_n (pc := 14) dD_endHurried_14 rfl rfl ?_
  refine wq_aload_n (pc := 15) dD_endHurried_15 rfl rfl ?_
  refine wq_getR (pc := 16) (z := 0) (b := 1) dD_endHurried_16 fO_D_12 sh_0 rfl rfl (rf_0_0 hS) ?_
  refine wq_getR (pc := 19) (z := 4) (b := 26) dD_endHurried_19 fO_D_102 sh_1 rfl rfl (rf_1_4 hS) ?_
  refine wq_getI (pc := 22) (z := 3) dD_endHurried_22 fO_D_278 sh_26 rfl rfl ?_
  refine wq_icmp_ge (pc := 25) (tgt := 60) dD_endHurried_25 (by decide) (fun c1 => ?_) (fun c1 => ?_)
  · have H := H.1 c1
    refine wq_aload_n (pc := 60) dD_endHurried_60 rfl rfl ?_
    refine wq_getR (pc := 61) (z := 2) (b := 59) dD_endHurried_61 fO_D_22 sh_0 rfl rfl (rf_0_2 hS) ?_
    refine wq_aload_n (pc := 64) dD_endHurried_64 rfl rfl ?_
    refine wq_getR (pc := 65) (z := 0) (b := 1) dD_endHurried_65 fO_D_12 sh_0 rfl rfl (rf_0_0 hS) ?_
    refine wq_callV (d' := 3) (pc := 68) (as := [vR 1]) (rest := []) (lo' := [iR 59, iR 1, none, none, none, none]) dD_endHurried_68 mO_P_run lV_D_352 sh_59 (by decide) cl_4 rfl rfl rfl rfl rfl rfl ?_
    exact H
  · have H := H.2 c1
    obtain ⟨⟨s2, s3, s4, s5, s6⟩, H⟩ := H
    refine wq_aload_n (pc := 28) dD_endHurried_28 rfl rfl ?_
    refine wq_getR (pc := 29) (z := 2) (b := 59) dD_endHurried_29 fO_D_22 sh_0 rfl rfl (rf_0_2 hS) ?_
    refine wq_getR (pc := 32) (z := 0) (b := 60) dD_endHurried_32 fO_D_356 sh_59 rfl rfl (rf_59_0 hS) ?_
    refine wq_aload_n (pc := 35) dD_endHurried_35 rfl rfl ?_
    refine wq_getR (pc := 36) (z := 0) (b := 1) dD_endHurried_36 fO_D_12 sh_0 rfl rfl (rf_0_0 hS) ?_
    refine wq_getR (pc := 39) (z := 4) (b := 26) dD_endHurried_39 fO_D_102 sh_1 rfl rfl (rf_1_4 hS) ?_
    refine wq_getR (pc := 42) (z := 0) (b := 27) dD_endHurried_42 fO_D_394 sh_26 rfl rfl (rf_26_0 hS) ?_
    refine wq_iload_n (pc := 45) dD_endHurried_45 rfl rfl ?_
    refine wq_iald (pc := 46) dD_endHurried_46 sh_27 s2.1 s2.2 ?_
    refine wq_dup2 (pc := 47) dD_endHurried_47 rfl rfl ?_
    refine wq_iald (pc := 48) dD_endHurried_48 sh_60 s3.1 s3.2 ?_
    refine wq_aload_n (pc := 49) dD_endHurried_49 rfl rfl ?_
    refine wq_iload_n (pc := 50) dD_endHurried_50 rfl rfl ?_
    refine wq_iald (pc := 51) dD_endHurried_51 sh_77 s4.1 s4.2 ?_
    refine wq_isub (pc := 52) dD_endHurried_52 ?_
    refine wq_re (x := (wr (gI M 60 (gI M 27 x3) - gI M 77 x3))) (y := (gI M 60 (gI M 27 x3) - gI M 77 x3)) (Eq.trans (wr_eq (by omega) (by omega)) (by omega)) ?_
    refine wq_iast (pc := 53) dD_endHurried_53 sh_60 (by decide) s3.1 s3.2 ?_
    refine wq_iinc (pc := 54) (lo' := [iR 0, iR 77, iI x2, iI (x3 + 1)]) dD_endHurried_54 rfl rfl (by rw [show wr (x3 + 1) = x3 + 1 from (Eq.trans (wr_eq (by omega) (by omega)) (by omega))]; rfl) ?_
    refine wq_goto (pc := 57) (tgt := 14) dD_endHurried_57 (by decide) ?_
    exact H

set_option maxRecDepth 20000 in
theorem B_D_endHurried_77_71 {x2 x3 y0 : Int} {M : Mm} {Q : Mm → Option Mv → Prop} (H : Q M (some (vI y0))) : Wq 4 0 0 mD_endHurried 71 [iR 0, iR 77, iI x2, iI x3] [vI y0] M Q := by
  refine wq_ireturn (pc := 71) dD_endHurried_71 trivial ?_
  exact H
set_option maxRecDepth 20000 in
theorem B_H_sumOf_77_0 {M : Mm} {Q : Mm → Option Mv → Prop} (H : Wq 1 0 0 mH_sumOf 4 [iR 26, iR 77, iI 0, iI 0] [] M Q) : Wq 1 0 0 mH_sumOf 0 [iR 26, iR 77, none, none] [] M Q := by
  refine wq_iconst (pc := 0) dH_sumOf_0 rfl ?_
  refine wq_istore_n (pc := 1) (lo' := [iR 26, iR 77, iI 0, none]) dH_sumOf_1 rfl rfl rfl ?_
  refine wq_iconst (pc := 2) dH_sumOf_2 rfl ?_
  refine wq_istore_n (pc := 3) (lo' := [iR 26, iR 77, iI 0, iI 0]) dH_sumOf_3 rfl rfl rfl ?_
  exact H

set_option maxRecDepth 20000 in
theorem B_H_sumOf_77_4 {x2 x3 : Int} {M : Mm} {Q : Mm → Option Mv → Prop} (hS : RefOK M) (H : ((gI M 26 3 ≤ x3 → Q M (some (vI x2))) ∧ (¬ gI M 26 3 ≤ x3 → (((0 ≤ x3 ∧ x3 < 24) ∧ (0 ≤ x3 ∧ x3 < 5) ∧ (-2147483648 ≤ x2 + gI M 77 x3 * gI M 29 x3 ∧ x2 + gI M 77 x3 * gI M 29 x3 < 2147483648) ∧ (-2147483648 ≤ x3 + 1 ∧ x3 + 1 < 2147483648)) ∧ Wq 1 0 0 mH_sumOf 4 [iR 26, iR 77, iI (x2 + gI M 77 x3 * gI M 29 x3), iI (x3 + 1)] [] M Q)))) : Wq 1 0 0 mH_sumOf 4 [iR 26, iR 77, iI x2, iI x3] [] M Q := by
  refine wq_iload_n (pc := 4) dH_sumOf_4 rfl rfl ?_
  refine wq_aload_n (pc := 5) dH_sumOf_5 rfl rfl ?_
  refine wq_getI (pc := 6) (z := 3) dH_sumOf_6 fO_H_21 sh_26 rfl rfl ?_
  refine wq_icmp_ge (pc := 9) (tgt := 31) dH_sumOf_9 (by decide) (fun c1 => ?_) (fun c1 => ?_)
  · have H := H.1 c1
    refine wq_iload_n (pc := 31) dH_sumOf_31 rfl rfl ?_
    refine wq_ireturn (pc := 32) dH_sumOf_32 trivial ?_
    exact H
  · have H := H.2 c1
    obtain ⟨⟨s2, s3, s4, s5⟩, H⟩ := H
    refine wq_iload_n (pc := 12) dH_sumOf_12 rfl rfl ?_
    refine wq_aload_n (pc := 13) dH_sumOf_13 rfl rfl ?_
    refine wq_iload_n (pc := 14) dH_sumOf_14 rfl rfl ?_
    refine wq_iald (pc := 15) dH_sumOf_15 sh_77 s2.1 s2.2 ?_
    refine wq_aload_n (pc := 16) dH_sumOf_16 rfl rfl ?_
    refine wq_getR (pc := 17) (z := 2) (b := 29) dH_sumOf_17 fO_H_18 sh_26 rfl rfl (rf_26_2 hS) ?_
    refine wq_iload_n (pc := 20) dH_sumOf_20 rfl rfl ?_
    refine wq_iald (pc := 21) dH_sumOf_21 sh_29 s3.1 s3.2 ?_
    refine wq_imul (pc := 22) dH_sumOf_22 ?_
    refine wq_iadd (pc := 23) dH_sumOf_23 ?_
    refine wq_re (x := (wr (x2 + wr (gI M 77 x3 * gI M 29 x3)))) (y := (x2 + gI M 77 x3 * gI M 29 x3)) (by (try simp only [wr_al, wr_ar, wr_sl, wr_sr, wr_ml, wr_mr, wr_nn, wr_ww]); exact Eq.trans (wr_eq (by omega) (by omega)) (by omega)) ?_
    refine wq_istore_n (pc := 24) (lo' := [iR 26, iR 77, iI (x2 + gI M 77 x3 * gI M 29 x3), iI x3]) dH_sumOf_24 rfl rfl rfl ?_
    refine wq_iinc (pc := 25) (lo' := [iR 26, iR 77, iI (x2 + gI M 77 x3 * gI M 29 x3), iI (x3 + 1)]) dH_sumOf_25 rfl rfl (by rw [show wr (x3 + 1) = x3 + 1 from (Eq.trans (wr_eq (by omega) (by omega)) (by omega))]; rfl) ?_
    refine wq_goto (pc := 28) (tgt := 4) dH_sumOf_28 (by decide) ?_
    exact H
set_option maxRecDepth 20000 in
theorem B_D_endHurried_79_0 {x2 : Int} {M : Mm} {Q : Mm → Option Mv → Prop} (hS : RefOK M) (H : Wq 2 0 0 mP_load 0 [iR 59, iR 1, iI x2, none, none, none] [] M (fun M' v => Wq 4 0 0 mD_endHurried 12 [iR 0, iR 79, iI x2, none] (v.toList ++ []) M' Q)) : Wq 4 0 0 mD_endHurried 0 [iR 0, iR 79, iI x2, none] [] M Q := by
  refine wq_aload_n (pc := 0) dD_endHurried_0 rfl rfl ?_
  refine wq_getR (pc := 1) (z := 2) (b := 59) dD_endHurried_1 fO_D_22 sh_0 rfl rfl (rf_0_2 hS) ?_
  refine wq_aload_n (pc := 4) dD_endHurried_4 rfl rfl ?_
  refine wq_getR (pc := 5) (z := 0) (b := 1) dD_endHurried_5 fO_D_12 sh_0 rfl rfl (rf_0_0 hS) ?_
  refine wq_iload_n (pc := 8) dD_endHurried_8 rfl rfl ?_
  refine wq_callV (d' := 2) (pc := 9) (as := [vR 1, vI x2]) (rest := []) (lo' := [iR 59, iR 1, iI x2, none, none, none]) dD_endHurried_9 mO_P_load lV_D_348 sh_59 (by decide) cl_4 rfl rfl rfl rfl rfl rfl ?_
  exact H

set_option maxRecDepth 20000 in
theorem B_D_endHurried_79_12 {x2 : Int} {M : Mm} {Q : Mm → Option Mv → Prop} (H : Wq 4 0 0 mD_endHurried 14 [iR 0, iR 79, iI x2, iI 0] [] M Q) : Wq 4 0 0 mD_endHurried 12 [iR 0, iR 79, iI x2, none] [] M Q := by
  refine wq_iconst (pc := 12) dD_endHurried_12 rfl ?_
  refine wq_istore_n (pc := 13) (lo' := [iR 0, iR 79, iI x2, iI 0]) dD_endHurried_13 rfl rfl rfl ?_
  exact H

set_option maxRecDepth 20000 in
theorem B_D_endHurried_79_14 {x2 x3 : Int} {M : Mm} {Q : Mm → Option Mv → Prop} (hS : RefOK M) (H : ((gI M 26 3 ≤ x3 → Wq 3 0 0 mP_run 0 [iR 59, iR 1, none, none, none, none] [] M (fun M' v => Wq 4 0 0 mD_endHurried 71 [iR 0, iR 79, iI x2, iI x3] (v.toList ++ []) M' Q)) ∧ (¬ gI M 26 3 ≤ x3 → (((0 ≤ x3 ∧ x3 < 5) ∧ (0 ≤ gI M 27 x3 ∧ gI M 27 x3 < 16) ∧ (0 ≤ x3 ∧ x3 < 24) ∧ (-2147483648 ≤ gI M 60 (gI M 27 x3) - gI M 79 x3 ∧ gI M 60 (gI M 27 x3) - gI M 79 x3 < 2147483648) ∧ (-2147483648 ≤ x3 + 1 ∧ x3 + 1 < 2147483648)) ∧ Wq 4 0 0 mD_endHurried 14 [iR 0, iR 79, iI x2, iI (x3 + 1)] [] (sI M 60 (gI M 27 x3) (gI M 60 (gI M 27 x3) - gI M 79 x3)) Q)))) : Wq 4 0 0 mD_endHurried 14 [iR 0, iR 79, iI x2, iI x3] [] M Q := by
  refine wq_iload_n (pc := 14) dD_endHurried_14 rfl rfl ?_
  refine wq_aload_n (pc := 15) dD_endHurried_15 rfl rfl ?_
  refine wq_getR (pc := 16) (z := 0) (b := 1) dD_endHurried_16 fO_D_12 sh_0 rfl rfl (rf_0_0 hS) ?_
  refine wq_getR (pc := 19) (z := 4) (b := 26) dD_endHurried_19 fO_D_102 sh_1 rfl rfl (rf_1_4 hS) ?_
  refine wq_getI (pc := 22) (z := 3) dD_endHurried_22 fO_D_278 sh_26 rfl rfl ?_
  refine wq_icmp_ge (pc := 25) (tgt := 60) dD_endHurried_25 (by decide) (fun c1 => ?_) (fun c1 => ?_)
  · have H := H.1 c1
    refine wq_aload_n (pc := 60) dD_endHurried_60 rfl rfl ?_
    refine wq_getR (pc := 61) (z := 2) (b := 59) dD_endHurried_61 fO_D_22 sh_0 rfl rfl (rf_0_2 hS) ?_
    refine wq_aload_n (pc := 64) dD_endHurried_64 rfl rfl ?_
    refine wq_getR (pc := 65) (z := 0) (b := 1) dD_endHurried_65 fO_D_12 sh_0 rfl rfl (rf_0_0 hS) ?_
    refine wq_callV (d' := 3) (pc := 68) (as := [vR 1]) (rest := []) (lo' := [iR 59, iR 1, none, none, none, none]) dD_endHurried_68 mO_P_run lV_D_352 sh_59 (by decide) cl_4 rfl rfl rfl rfl rfl rfl ?_
    exact H
  · have H := H.2 c1
    obtain ⟨⟨s2, s3, s4, s5, s6⟩, H⟩ := H
    refine wq_aload_n (pc := 28) dD_endHurried_28 rfl rfl ?_
    refine wq_getR (pc := 29) (z := 2) (b := 59) dD_endHurried_29 fO_D_22 sh_0 rfl rfl (rf_0_2 hS) ?_
    refine wq_getR (pc := 32) (z := 0) (b := 60) dD_endHurried_32 fO_D_356 sh_59 rfl rfl (rf_59_0 hS) ?_
    refine wq_aload_n (pc := 35) dD_endHurried_35 rfl rfl ?_
    refine wq_getR (pc := 36) (z := 0) (b := 1) dD_endHurried_36 fO_D_12 sh_0 rfl rfl (rf_0_0 hS) ?_
    refine wq_getR (pc := 39) (z := 4) (b := 26) dD_endHurried_39 fO_D_102 sh_1 rfl rfl (rf_1_4 hS) ?_
    refine wq_getR (pc := 42) (z := 0) (b := 27) dD_endHurried_42 fO_D_394 sh_26 rfl rfl (rf_26_0 hS) ?_
    refine wq_iload_n (pc := 45) dD_endHurried_45 rfl rfl ?_
    refine wq_iald (pc := 46) dD_endHurried_46 sh_27 s2.1 s2.2 ?_
    refine wq_dup2 (pc := 47) dD_endHurried_47 rfl rfl ?_
    refine wq_iald (pc := 48) dD_endHurried_48 sh_60 s3.1 s3.2 ?_
    refine wq_aload_n (pc := 49) dD_endHurried_49 rfl rfl ?_
    refine wq_iload_n (pc := 50) dD_endHurried_50 rfl rfl ?_
    refine wq_iald (pc := 51) dD_endHurried_51 sh_79 s4.1 s4.2 ?_
    refine wq_isub (pc := 52) dD_endHurried_52 ?_
    refine wq_re (x := (wr (gI M 60 (gI M 27 x3) - gI M 79 x3))) (y := (gI M 60 (gI M 27 x3) - gI M 79 x3)) (Eq.trans (wr_eq (by omega) (by omega)) (by omega)) ?_
    refine wq_iast (pc := 53) dD_endHurried_53 sh_60 (by decide) s3.1 s3.2 ?_
    refine wq_iinc (pc := 54) (lo' := [iR 0, iR 79, iI x2, iI (x3 + 1)]) dD_endHurried_54 rfl rfl (by rw [show wr (x3 + 1) = x3 + 1 from (Eq.trans (wr_eq (by omega) (by omega)) (by omega))]; rfl) ?_
    refine wq_goto (pc := 57) (tgt := 14) dD_endHurried_57 (by decide) ?_
    exact H

set_option maxRecDepth 20000 in
theorem B_D_endHurried_79_71 {x2 x3 y0 : Int} {M : Mm} {Q : Mm → Option Mv → Prop} (H : Q M (some (vI y0))) : Wq 4 0 0 mD_endHurried 71 [iR 0, iR 79, iI x2, iI x3] [vI y0] M Q := by
  refine wq_ireturn (pc := 71) dD_endHurried_71 trivial ?_
  exact H
set_option maxRecDepth 20000 in
theorem B_H_sumOf_79_0 {M : Mm} {Q : Mm → Option Mv → Prop} (H : Wq 1 0 0 mH_sumOf 4 [iR 26, iR 79, iI 0, iI 0] [] M Q) : Wq 1 0 0 mH_sumOf 0 [iR 26, iR 79, none, none] [] M Q := by
  refine wq_iconst (pc := 0) dH_sumOf_0 rfl ?_
  refine wq_istore_n (pc := 1) (lo' := [iR 26, iR 79, iI 0, none]) dH_sumOf_1 rfl rfl rfl ?_
  refine wq_iconst (pc := 2) dH_sumOf_2 rfl ?_
  refine wq_istore_n (pc := 3) (lo' := [iR 26, iR 79, iI 0, iI 0]) dH_sumOf_3 rfl rfl rfl ?_
  exact H

set_option maxRecDepth 20000 in
theorem B_H_sumOf_79_4 {x2 x3 : Int} {M : Mm} {Q : Mm → Option Mv → Prop} (hS : RefOK M) (H : ((gI M 26 3 ≤ x3 → Q M (some (vI x2))) ∧ (¬ gI M 26 3 ≤ x3 → (((0 ≤ x3 ∧ x3 < 24) ∧ (0 ≤ x3 ∧ x3 < 5) ∧ (-2147483648 ≤ x2 + gI M 79 x3 * gI M 29 x3 ∧ x2 + gI M 79 x3 * gI M 29 x3 < 2147483648) ∧ (-2147483648 ≤ x3 + 1 ∧ x3 + 1 < 2147483648)) ∧ Wq 1 0 0 mH_sumOf 4 [iR 26, iR 79, iI (x2 + gI M 79 x3 * gI M 29 x3), iI (x3 + 1)] [] M Q)))) : Wq 1 0 0 mH_sumOf 4 [iR 26, iR 79, iI x2, iI x3] [] M Q := by
  refine wq_iload_n (pc := 4) dH_sumOf_4 rfl rfl ?_
  refine wq_aload_n (pc := 5) dH_sumOf_5 rfl rfl ?_
  refine wq_getI (pc := 6) (z := 3) dH_sumOf_6 fO_H_21 sh_26 rfl rfl ?_
  refine wq_icmp_ge (pc := 9) (tgt := 31) dH_sumOf_9 (by decide) (fun c1 => ?_) (fun c1 => ?_)
  · have H := H.1 c1
    refine wq_iload_n (pc := 31) dH_sumOf_31 rfl rfl ?_
    refine wq_ireturn (pc := 32) dH_sumOf_32 trivial ?_
    exact H
  · have H := H.2 c1
    obtain ⟨⟨s2, s3, s4, s5⟩, H⟩ := H
    refine wq_iload_n (pc := 12) dH_sumOf_12 rfl rfl ?_
    refine wq_aload_n (pc := 13) dH_sumOf_13 rfl rfl ?_
    refine wq_iload_n (pc := 14) dH_sumOf_14 rfl rfl ?_
    refine wq_iald (pc := 15) dH_sumOf_15 sh_79 s2.1 s2.2 ?_
    refine wq_aload_n (pc := 16) dH_sumOf_16 rfl rfl ?_
    refine wq_getR (pc := 17) (z := 2) (b := 29) dH_sumOf_17 fO_H_18 sh_26 rfl rfl (rf_26_2 hS) ?_
    refine wq_iload_n (pc := 20) dH_sumOf_20 rfl rfl ?_
    refine wq_iald (pc := 21) dH_sumOf_21 sh_29 s3.1 s3.2 ?_
    refine wq_imul (pc := 22) dH_sumOf_22 ?_
    refine wq_iadd (pc := 23) dH_sumOf_23 ?_
    refine wq_re (x := (wr (x2 + wr (gI M 79 x3 * gI M 29 x3)))) (y := (x2 + gI M 79 x3 * gI M 29 x3)) (by (try simp only [wr_al, wr_ar, wr_sl, wr_sr, wr_ml, wr_mr, wr_nn, wr_ww]); exact Eq.trans (wr_eq (by omega) (by omega)) (by omega)) ?_
    refine wq_istore_n (pc := 24) (lo' := [iR 26, iR 79, iI (x2 + gI M 79 x3 * gI M 29 x3), iI x3]) dH_sumOf_24 rfl rfl rfl ?_
    refine wq_iinc (pc := 25) (lo' := [iR 26, iR 79, iI (x2 + gI M 79 x3 * gI M 29 x3), iI (x3 + 1)]) dH_sumOf_25 rfl rfl (by rw [show wr (x3 + 1) = x3 + 1 from (Eq.trans (wr_eq (by omega) (by omega)) (by omega))]; rfl) ?_
    refine wq_goto (pc := 28) (tgt := 4) dH_sumOf_28 (by decide) ?_
    exact H
set_option maxRecDepth 20000 in
theorem B_H_next_0 {M : Mm} {Q : Mm → Option Mv → Prop} (H : ((-2147483648 ≤ gI M 26 3 - 1 ∧ gI M 26 3 - 1 < 2147483648) ∧ Wq 1 0 0 mH_next 7 [iR 26, iR 70, iI (gI M 26 3 - 1)] [] M Q)) : Wq 1 0 0 mH_next 0 [iR 26, iR 70, none] [] M Q := by
  obtain ⟨s1, H⟩ := H
  refine wq_aload_n (pc := 0) dH_next_0 rfl rfl ?_
  refine wq_getI (pc := 1) (z := 3) dH_next_1 fO_H_21 sh_26 rfl rfl ?_
  refine wq_iconst (pc := 4) dH_next_4 rfl ?_
  refine wq_isub (pc := 5) dH_next_5 ?_
  refine wq_re (x := (wr (gI M 26 3 - 1))) (y := (gI M 26 3 - 1)) (Eq.trans (wr_eq (by omega) (by omega)) (by omega)) ?_
  refine wq_istore_n (pc := 6) (lo' := [iR 26, iR 70, iI (gI M 26 3 - 1)]) dH_next_6 rfl rfl rfl ?_
  exact H

set_option maxRecDepth 20000 in
theorem B_H_next_7 {x2 : Int} {M : Mm} {Q : Mm → Option Mv → Prop} (hS : RefOK M) (H : ((x2 < 0 → Q M (some (vI 0))) ∧ (¬ x2 < 0 → ((0 ≤ x2 ∧ x2 < 5) ∧ ((gI M 28 x2 ≤ gI M 70 x2 → ((-2147483648 ≤ x2 - 1 ∧ x2 - 1 < 2147483648) ∧ Wq 1 0 0 mH_next 7 [iR 26, iR 70, iI (x2 - 1)] [] (sI M 70 x2 0) Q)) ∧ (¬ gI M 28 x2 ≤ gI M 70 x2 → ((-2147483648 ≤ gI M 70 x2 + 1 ∧ gI M 70 x2 + 1 < 2147483648) ∧ Q (sI M 70 x2 (gI M 70 x2 + 1)) (some (vI 1))))))))) : Wq 1 0 0 mH_next 7 [iR 26, iR 70, iI x2] [] M Q := by
  refine wq_iload_n (pc := 7) dH_next_7 rfl rfl ?_
  refine wq_if_lt (pc := 8) (tgt := 42) dH_next_8 (by decide) (fun c1 => ?_) (fun c1 => ?_)
  · have H := H.1 c1
    refine wq_iconst (pc := 42) dH_next_42 rfl ?_
    refine wq_ireturn (pc := 43) dH_next_43 (Or.inl rfl) ?_
    exact H
  · have H := H.2 c1
    obtain ⟨s2, H⟩ := H
    refine wq_aload_n (pc := 11) dH_next_11 rfl rfl ?_
    refine wq_iload_n (pc := 12) dH_next_12 rfl rfl ?_
    refine wq_iald (pc := 13) dH_next_13 sh_70 s2.1 s2.2 ?_
    refine wq_aload_n (pc := 14) dH_next_14 rfl rfl ?_
    refine wq_getR (pc := 15) (z := 1) (b := 28) dH_next_15 fO_H_15 sh_26 rfl rfl (rf_26_1 hS) ?_
    refine wq_iload_n (pc := 18) dH_next_18 rfl rfl ?_
    refine wq_iald (pc := 19) dH_next_19 sh_28 s2.1 s2.2 ?_
    refine wq_icmp_ge (pc := 20) (tgt := 32) dH_next_20 (by decide) (fun c3 => ?_) (fun c3 => ?_)
    · have H := H.1 c3
      obtain ⟨s4, H⟩ := H
      refine wq_aload_n (pc := 32) dH_next_32 rfl rfl ?_
      refine wq_iload_n (pc := 33) dH_next_33 rfl rfl ?_
      refine wq_iconst (pc := 34) dH_next_34 rfl ?_
      refine wq_iast (pc := 35) dH_next_35 sh_70 (by decide) s2.1 s2.2 ?_
      refine wq_iinc (pc := 36) (lo' := [iR 26, iR 70, iI (x2 - 1)]) dH_next_36 rfl rfl (by rw [show wr (x2 + (-1)) = x2 - 1 from (Eq.trans (wr_eq (by omega) (by omega)) (by omega))]; rfl) ?_
      refine wq_goto (pc := 39) (tgt := 7) dH_next_39 (by decide) ?_
      exact H
    · have H := H.2 c3
      obtain ⟨s5, H⟩ := H
      refine wq_aload_n (pc := 23) dH_next_23 rfl rfl ?_
      refine wq_iload_n (pc := 24) dH_next_24 rfl rfl ?_
      refine wq_dup2 (pc := 25) dH_next_25 rfl rfl ?_
      refine wq_iald (pc := 26) dH_next_26 sh_70 s2.1 s2.2 ?_
      refine wq_iconst (pc := 27) dH_next_27 rfl ?_
      refine wq_iadd (pc := 28) dH_next_28 ?_
      refine wq_re (x := (wr (gI M 70 x2 + 1))) (y := (gI M 70 x2 + 1)) (Eq.trans (wr_eq (by omega) (by omega)) (by omega)) ?_
      refine wq_iast (pc := 29) dH_next_29 sh_70 (by decide) s2.1 s2.2 ?_
      refine wq_iconst (pc := 30) dH_next_30 rfl ?_
      refine wq_ireturn (pc := 31) dH_next_31 (Or.inr rfl) ?_
      exact H
set_option maxRecDepth 20000 in
theorem B_D_cheapest_0 {x1 : Int} {M : Mm} {Q : Mm → Option Mv → Prop} (H : Wq 2 0 0 mD_knownToday 0 [iR 0] [] M (fun M' v => Wq 5 0 0 mD_cheapest 4 [iR 0, iI x1, none, none, none, none, none] (v.toList ++ []) M' Q)) : Wq 5 0 0 mD_cheapest 0 [iR 0, iI x1, none, none, none, none, none] [] M Q := by
  refine wq_aload_n (pc := 0) dD_cheapest_0 rfl rfl ?_
  refine wq_callV (d' := 2) (pc := 1) (as := []) (rest := []) (lo' := [iR 0]) dD_cheapest_1 mO_D_knownToday lV_D_272 sh_0 (by decide) cl_10 rfl rfl rfl rfl rfl rfl ?_
  exact H

set_option maxRecDepth 20000 in
theorem B_D_cheapest_4 {x1 y0 : Int} {M : Mm} {Q : Mm → Option Mv → Prop} (H : Wq 5 0 0 mD_cheapest 13 [iR 0, iI x1, iI y0, iI ((-1)), iI 1, iI 0, none] [] M Q) : Wq 5 0 0 mD_cheapest 4 [iR 0, iI x1, none, none, none, none, none] [vI y0] M Q := by
  refine wq_istore_n (pc := 4) (lo' := [iR 0, iI x1, iI y0, none, none, none, none]) dD_cheapest_4 rfl rfl rfl ?_
  refine wq_iconst (pc := 5) dD_cheapest_5 rfl ?_
  refine wq_istore_n (pc := 6) (lo' := [iR 0, iI x1, iI y0, iI ((-1)), none, none, none]) dD_cheapest_6 rfl rfl rfl ?_
  refine wq_iconst (pc := 7) dD_cheapest_7 rfl ?_
  refine wq_istore (pc := 8) (lo' := [iR 0, iI x1, iI y0, iI ((-1)), iI 1, none, none]) dD_cheapest_8 rfl rfl ?_
  refine wq_iconst (pc := 10) dD_cheapest_10 rfl ?_
  refine wq_istore (pc := 11) (lo' := [iR 0, iI x1, iI y0, iI ((-1)), iI 1, iI 0, none]) dD_cheapest_11 rfl rfl ?_
  exact H

set_option maxRecDepth 20000 in
theorem B_D_cheapest_13 {x1 x2 x3 x4 x5 : Int} {M : Mm} {Q : Mm → Option Mv → Prop} (hS : RefOK M) (H : ((5 ≤ x5 → Wq 5 0 0 mD_cheapest 36 [iR 0, iI x1, iI x2, iI x3, iI x4, iI 0, none] [] M Q) ∧ (¬ 5 ≤ x5 → (((0 ≤ x5 ∧ x5 < 5) ∧ (-2147483648 ≤ x5 + 1 ∧ x5 + 1 < 2147483648)) ∧ Wq 5 0 0 mD_cheapest 13 [iR 0, iI x1, iI x2, iI x3, iI x4, iI (x5 + 1), none] [] (sI M 70 x5 0) Q)))) : Wq 5 0 0 mD_cheapest 13 [iR 0, iI x1, iI x2, iI x3, iI x4, iI x5, none] [] M Q := by
  refine wq_iload (pc := 13) dD_cheapest_13 rfl ?_
  refine wq_iconst (pc := 15) dD_cheapest_15 rfl ?_
  refine wq_icmp_ge (pc := 16) (tgt := 33) dD_cheapest_16 (by decide) (fun c1 => ?_) (fun c1 => ?_)
  · have H := H.1 c1
    refine wq_iconst (pc := 33) dD_cheapest_33 rfl ?_
    refine wq_istore (pc := 34) (lo' := [iR 0, iI x1, iI x2, iI x3, iI x4, iI 0, none]) dD_cheapest_34 rfl rfl ?_
    exact H
  · have H := H.2 c1
    obtain ⟨⟨s2, s3⟩, H⟩ := H
    refine wq_aload_n (pc := 19) dD_cheapest_19 rfl rfl ?_
    refine wq_getR (pc := 20) (z := 7) (b := 70) dD_cheapest_20 fO_D_50 sh_0 rfl rfl (rf_0_7 hS) ?_
    refine wq_iload (pc := 23) dD_cheapest_23 rfl ?_
    refine wq_iconst (pc := 25) dD_cheapest_25 rfl ?_
    refine wq_iast (pc := 26) dD_cheapest_26 sh_70 (by decide) s2.1 s2.2 ?_
    refine wq_iinc (pc := 27) (lo' := [iR 0, iI x1, iI x2, iI x3, iI x4, iI (x5 + 1), none]) dD_cheapest_27 rfl rfl (by rw [show wr (x5 + 1) = x5 + 1 from (Eq.trans (wr_eq (by omega) (by omega)) (by omega))]; rfl) ?_
    refine wq_goto (pc := 30) (tgt := 13) dD_cheapest_30 (by decide) ?_
    exact H

set_option maxRecDepth 20000 in
theorem B_D_cheapest_36 {x1 x2 x3 x4 x5 : Int} {M : Mm} {Q : Mm → Option Mv → Prop} (hS : RefOK M) (H : ((243 ≤ x5 → Q M (some (vI x3))) ∧ (¬ 243 ≤ x5 → ((x4 = 0 → Q M (some (vI x3))) ∧ (¬ x4 = 0 → Wq 1 0 0 mH_sumOf 0 [iR 26, iR 70, none, none] [] M (fun M' v => Wq 5 0 0 mD_cheapest 63 [iR 0, iI x1, iI x2, iI x3, iI x4, iI x5, none] (v.toList ++ []) M' Q)))))) : Wq 5 0 0 mD_cheapest 36 [iR 0, iI x1, iI x2, iI x3, iI x4, iI x5, none] [] M Q := by
  refine wq_iload (pc := 36) dD_cheapest_36 rfl ?_
  refine wq_sipush (pc := 38) dD_cheapest_38 rfl ?_
  refine wq_icmp_ge (pc := 41) (tgt := 127) dD_cheapest_41 (by decide) (fun c1 => ?_) (fun c1 => ?_)
  · have H := H.1 c1
    refine wq_iload_n (pc := 127) dD_cheapest_127 rfl rfl ?_
    refine wq_ireturn (pc := 128) dD_cheapest_128 trivial ?_
    exact H
  · have H := H.2 c1
    refine wq_iload (pc := 44) dD_cheapest_44 rfl ?_
    refine wq_if_eq (pc := 46) (tgt := 127) dD_cheapest_46 (by decide) (fun c2 => ?_) (fun c2 => ?_)
    · have H := H.1 c2
      refine wq_iload_n (pc := 127) dD_cheapest_127 rfl rfl ?_
      refine wq_ireturn (pc := 128) dD_cheapest_128 trivial ?_
      exact H
    · have H := H.2 c2
      refine wq_aload_n (pc := 49) dD_cheapest_49 rfl rfl ?_
      refine wq_getR (pc := 50) (z := 0) (b := 1) dD_cheapest_50 fO_D_12 sh_0 rfl rfl (rf_0_0 hS) ?_
      refine wq_getR (pc := 53) (z := 4) (b := 26) dD_cheapest_53 fO_D_102 sh_1 rfl rfl (rf_1_4 hS) ?_
      refine wq_aload_n (pc := 56) dD_cheapest_56 rfl rfl ?_
      refine wq_getR (pc := 57) (z := 7) (b := 70) dD_cheapest_57 fO_D_50 sh_0 rfl rfl (rf_0_7 hS) ?_
      refine wq_callV (d' := 1) (pc := 60) (as := [vR 70]) (rest := []) (lo' := [iR 26, iR 70, none, none]) dD_cheapest_60 mO_H_sumOf lV_D_301 sh_26 (by decide) cl_3 rfl rfl rfl rfl rfl rfl ?_
      exact H

set_option maxRecDepth 20000 in
theorem B_D_cheapest_63 {x1 x2 x3 x4 x5 y0 : Int} {M : Mm} {Q : Mm → Option Mv → Prop} (hS : RefOK M) (H : ((x3 < 0 → Wq 4 0 0 mD_endHurried 0 [iR 0, iR 70, iI x2, none] [] M (fun M' v => Wq 5 0 0 mD_cheapest 84 [iR 0, iI x1, iI x2, iI x3, iI x4, iI x5, iI y0] (v.toList ++ []) M' Q)) ∧ (¬ x3 < 0 → ((x3 ≤ y0 → Wq 1 0 0 mH_next 0 [iR 26, iR 70, none] [] M (fun M' v => Wq 5 0 0 mD_cheapest 119 [iR 0, iI x1, iI x2, iI x3, iI x4, iI x5, iI y0] (v.toList ++ []) M' Q)) ∧ (¬ x3 ≤ y0 → Wq 4 0 0 mD_endHurried 0 [iR 0, iR 70, iI x2, none] [] M (fun M' v => Wq 5 0 0 mD_cheapest 84 [iR 0, iI x1, iI x2, iI x3, iI x4, iI x5, iI y0] (v.toList ++ []) M' Q)))))) : Wq 5 0 0 mD_cheapest 63 [iR 0, iI x1, iI x2, iI x3, iI x4, iI x5, none] [vI y0] M Q := by
  refine wq_istore (pc := 63) (lo' := [iR 0, iI x1, iI x2, iI x3, iI x4, iI x5, iI y0]) dD_cheapest_63 rfl rfl ?_
  refine wq_iload_n (pc := 65) dD_cheapest_65 rfl rfl ?_
  refine wq_if_lt (pc := 66) (tgt := 75) dD_cheapest_66 (by decide) (fun c1 => ?_) (fun c1 => ?_)
  · have H := H.1 c1
    refine wq_aload_n (pc := 75) dD_cheapest_75 rfl rfl ?_
    refine wq_aload_n (pc := 76) dD_cheapest_76 rfl rfl ?_
    refine wq_getR (pc := 77) (z := 7) (b := 70) dD_cheapest_77 fO_D_50 sh_0 rfl rfl (rf_0_7 hS) ?_
    refine wq_iload_n (pc := 80) dD_cheapest_80 rfl rfl ?_
    refine wq_callV (d' := 4) (pc := 81) (as := [vR 70, vI x2]) (rest := []) (lo' := [iR 0, iR 70, iI x2, none]) dD_cheapest_81 mO_D_endHurried lV_D_297 sh_0 (by decide) cl_10 rfl rfl rfl rfl rfl rfl ?_
    exact H
  · have H := H.2 c1
    refine wq_iload (pc := 69) dD_cheapest_69 rfl ?_
    refine wq_iload_n (pc := 71) dD_cheapest_71 rfl rfl ?_
    refine wq_icmp_ge (pc := 72) (tgt := 105) dD_cheapest_72 (by decide) (fun c2 => ?_) (fun c2 => ?_)
    · have H := H.1 c2
      refine wq_aload_n (pc := 105) dD_cheapest_105 rfl rfl ?_
      refine wq_getR (pc := 106) (z := 0) (b := 1) dD_cheapest_106 fO_D_12 sh_0 rfl rfl (rf_0_0 hS) ?_
      refine wq_getR (pc := 109) (z := 4) (b := 26) dD_cheapest_109 fO_D_102 sh_1 rfl rfl (rf_1_4 hS) ?_
      refine wq_aload_n (pc := 112) dD_cheapest_112 rfl rfl ?_
      refine wq_getR (pc := 113) (z := 7) (b := 70) dD_cheapest_113 fO_D_50 sh_0 rfl rfl (rf_0_7 hS) ?_
      refine wq_callV (d' := 1) (pc := 116) (as := [vR 70]) (rest := []) (lo' := [iR 26, iR 70, none]) dD_cheapest_116 mO_H_next lV_D_395 sh_26 (by decide) cl_3 rfl rfl rfl rfl rfl rfl ?_
      exact H
    · have H := H.2 c2
      refine wq_aload_n (pc := 75) dD_cheapest_75 rfl rfl ?_
      refine wq_aload_n (pc := 76) dD_cheapest_76 rfl rfl ?_
      refine wq_getR (pc := 77) (z := 7) (b := 70) dD_cheapest_77 fO_D_50 sh_0 rfl rfl (rf_0_7 hS) ?_
      refine wq_iload_n (pc := 80) dD_cheapest_80 rfl rfl ?_
      refine wq_callV (d' := 4) (pc := 81) (as := [vR 70, vI x2]) (rest := []) (lo' := [iR 0, iR 70, iI x2, none]) dD_cheapest_81 mO_D_endHurried lV_D_297 sh_0 (by decide) cl_10 rfl rfl rfl rfl rfl rfl ?_
      exact H

set_option maxRecDepth 20000 in
theorem B_D_cheapest_84 {x1 x2 x3 x4 x5 x6 y0 : Int} {M : Mm} {Q : Mm → Option Mv → Prop} (hS : RefOK M) (H : ((x1 < y0 → Wq 1 0 0 mH_next 0 [iR 26, iR 70, none] [] M (fun M' v => Wq 5 0 0 mD_cheapest 119 [iR 0, iI x1, iI x2, iI x3, iI x4, iI x5, iI x6] (v.toList ++ []) M' Q)) ∧ (¬ x1 < y0 → Wq 1 0 0 mH_next 0 [iR 26, iR 70, none] [] (cI M 70 0 71 0 5) (fun M' v => Wq 5 0 0 mD_cheapest 119 [iR 0, iI x1, iI x2, iI x6, iI x4, iI x5, iI x6] (v.toList ++ []) M' Q)))) : Wq 5 0 0 mD_cheapest 84 [iR 0, iI x1, iI x2, iI x3, iI x4, iI x5, iI x6] [vI y0] M Q := by
  refine wq_iload_n (pc := 84) dD_cheapest_84 rfl rfl ?_
  refine wq_icmp_gt (pc := 85) (tgt := 105) dD_cheapest_85 (by decide) (fun c1 => ?_) (fun c1 => ?_)
  · have H := H.1 c1
    refine wq_aload_n (pc := 105) dD_cheapest_105 rfl rfl ?_
    refine wq_getR (pc := 106) (z := 0) (b := 1) dD_cheapest_106 fO_D_12 sh_0 rfl rfl (rf_0_0 hS) ?_
    refine wq_getR (pc := 109) (z := 4) (b := 26) dD_cheapest_109 fO_D_102 sh_1 rfl rfl (rf_1_4 hS) ?_
    refine wq_aload_n (pc := 112) dD_cheapest_112 rfl rfl ?_
    refine wq_getR (pc := 113) (z := 7) (b := 70) dD_cheapest_113 fO_D_50 sh_0 rfl rfl (rf_0_7 hS) ?_
    refine wq_callV (d' := 1) (pc := 116) (as := [vR 70]) (rest := []) (lo' := [iR 26, iR 70, none]) dD_cheapest_116 mO_H_next lV_D_395 sh_26 (by decide) cl_3 rfl rfl rfl rfl rfl rfl ?_
    exact H
  · have H := H.2 c1
    refine wq_iload (pc := 88) dD_cheapest_88 rfl ?_
    refine wq_istore_n (pc := 90) (lo' := [iR 0, iI x1, iI x2, iI x6, iI x4, iI x5, iI x6]) dD_cheapest_90 rfl rfl rfl ?_
    refine wq_aload_n (pc := 91) dD_cheapest_91 rfl rfl ?_
    refine wq_getR (pc := 92) (z := 7) (b := 70) dD_cheapest_92 fO_D_50 sh_0 rfl rfl (rf_0_7 hS) ?_
    refine wq_iconst (pc := 95) dD_cheapest_95 rfl ?_
    refine wq_aload_n (pc := 96) dD_cheapest_96 rfl rfl ?_
    refine wq_getR (pc := 97) (z := 8) (b := 71) dD_cheapest_97 fO_D_53 sh_0 rfl rfl (rf_0_8 hS) ?_
    refine wq_iconst (pc := 100) dD_cheapest_100 rfl ?_
    refine wq_iconst (pc := 101) dD_cheapest_101 rfl ?_
    refine wq_cpI (pc := 102) dD_cheapest_102 aC_D_326 (Or.inl ⟨sh_70, sh_71⟩) (by decide) (by decide) (by decide) (by decide) (by decide) (by decide) (by decide) rfl ?_
    refine wq_aload_n (pc := 105) dD_cheapest_105 rfl rfl ?_
    refine wq_getR (pc := 106) (z := 0) (b := 1) dD_cheapest_106 fO_D_12 sh_0 rfl rfl (rf_0_0 hS) ?_
    refine wq_getR (pc := 109) (z := 4) (b := 26) dD_cheapest_109 fO_D_102 sh_1 rfl rfl (rf_1_4 hS) ?_
    refine wq_aload_n (pc := 112) dD_cheapest_112 rfl rfl ?_
    refine wq_getR (pc := 113) (z := 7) (b := 70) dD_cheapest_113 fO_D_50 sh_0 rfl rfl (rf_0_7 hS) ?_
    refine wq_callV (d' := 1) (pc := 116) (as := [vR 70]) (rest := []) (lo' := [iR 26, iR 70, none]) dD_cheapest_116 mO_H_next lV_D_395 sh_26 (by decide) cl_3 rfl rfl rfl rfl rfl rfl ?_
    exact H

set_option maxRecDepth 20000 in
theorem B_D_cheapest_119 {x1 x2 x3 x4 x5 x6 y0 : Int} {M : Mm} {Q : Mm → Option Mv → Prop} (H : ((-2147483648 ≤ x5 + 1 ∧ x5 + 1 < 2147483648) ∧ Wq 5 0 0 mD_cheapest 36 [iR 0, iI x1, iI x2, iI x3, iI y0, iI (x5 + 1), none] [] M Q)) : Wq 5 0 0 mD_cheapest 119 [iR 0, iI x1, iI x2, iI x3, iI x4, iI x5, iI x6] [vI y0] M Q := by
  obtain ⟨s1, H⟩ := H
  refine wq_istore (pc := 119) (lo' := [iR 0, iI x1, iI x2, iI x3, iI y0, iI x5, iI x6]) dD_cheapest_119 rfl rfl ?_
  refine wq_iinc (pc := 121) (lo' := [iR 0, iI x1, iI x2, iI x3, iI y0, iI (x5 + 1), iI x6]) dD_cheapest_121 rfl rfl (by rw [show wr (x5 + 1) = x5 + 1 from (Eq.trans (wr_eq (by omega) (by omega)) (by omega))]; rfl) ?_
  refine wq_goto (pc := 124) (tgt := 36) dD_cheapest_124 (by decide) ?_
  refine wq_drop [6] (lo' := [iR 0, iI x1, iI x2, iI x3, iI y0, iI (x5 + 1), none]) rfl ?_
  exact H
set_option maxRecDepth 20000 in
theorem B_D_least_0 {x1 x2 : Int} {M : Mm} {Q : Mm → Option Mv → Prop} (hS : RefOK M) (H : ((0 ≤ x1 ∧ x1 ≤ 9999 → ((-2147483648 ≤ gI M 26 3 - 1 ∧ gI M 26 3 - 1 < 2147483648) ∧ (((-1) ≤ x2 ∧ x2 ≤ gI M 26 3 - 1 → Wq 5 0 0 mD_cheapest 0 [iR 0, iI x1, none, none, none, none, none] [] M (fun M' v => Wq 6 0 0 mD_least 43 [iR 0, iI x1, iI x2, none] (v.toList ++ []) M' Q)) ∧ (¬ ((-1) ≤ x2 ∧ x2 ≤ gI M 26 3 - 1) → Q (sI M 69 1 (wr (gI M 69 1 + 1))) (some (vI (-1000001))))))) ∧ (¬ (0 ≤ x1 ∧ x1 ≤ 9999) → Q (sI M 69 1 (wr (gI M 69 1 + 1))) (some (vI (-1000001)))))) : Wq 6 0 0 mD_least 0 [iR 0, iI x1, iI x2, none] [] M Q := by
  refine wq_iload_n (pc := 0) dD_least_0 rfl rfl ?_
  refine wq_iconst (pc := 1) dD_least_1 rfl ?_
  refine wq_sipush (pc := 2) dD_least_2 rfl ?_
  refine wq_callS (d' := 1) (pc := 5) (as := [vI x1, vI 0, vI 9999]) (rest := []) (lo' := [iI x1, iI 0, iI 9999]) dD_least_5 mO_D_within lS_D_65 rfl rfl rfl rfl rfl rfl ?_
  refine sp_D_within (fun c1 => ?_) (fun c1 => ?_)
  · have H := H.1 c1
    show Wq 6 0 0 mD_least 8 [iR 0, iI x1, iI x2, none] [vI 1] M _
    obtain ⟨s2, H⟩ := H
    refine wq_if_eq (pc := 8) (tgt := 31) dD_least_8 (by decide) (fun q => absurd q (by decide)) (fun _ => ?_)
    refine wq_iload_n (pc := 11) dD_least_11 rfl rfl ?_
    refine wq_iconst (pc := 12) dD_least_12 rfl ?_
    refine wq_aload_n (pc := 13) dD_least_13 rfl rfl ?_
    refine wq_getR (pc := 14) (z := 0) (b := 1) dD_least_14 fO_D_12 sh_0 rfl rfl (rf_0_0 hS) ?_
    refine wq_getR (pc := 17) (z := 4) (b := 26) dD_least_17 fO_D_102 sh_1 rfl rfl (rf_1_4 hS) ?_
    refine wq_getI (pc := 20) (z := 3) dD_least_20 fO_D_278 sh_26 rfl rfl ?_
    refine wq_iconst (pc := 23) dD_least_23 rfl ?_
    refine wq_isub (pc := 24) dD_least_24 ?_
    refine wq_re (x := (wr (gI M 26 3 - 1))) (y := (gI M 26 3 - 1)) (Eq.trans (wr_eq (by omega) (by omega)) (by omega)) ?_
    refine wq_callS (d' := 1) (pc := 25) (as := [vI x2, vI (-1), vI (gI M 26 3 - 1)]) (rest := []) (lo' := [iI x2, iI ((-1)), iI (gI M 26 3 - 1)]) dD_least_25 mO_D_within lS_D_65 rfl rfl rfl rfl rfl rfl ?_
    refine sp_D_within (fun c3 => ?_) (fun c3 => ?_)
    · have H := H.1 c3
      show Wq 6 0 0 mD_least 28 [iR 0, iI x1, iI x2, none] [vI 1] M _
      refine wq_if_ne (pc := 28) (tgt := 38) dD_least_28 (by decide) (fun _ => ?_) (fun q => absurd q (by decide))
      refine wq_aload_n (pc := 38) dD_least_38 rfl rfl ?_
      refine wq_iload_n (pc := 39) dD_least_39 rfl rfl ?_
      refine wq_callV (d' := 5) (pc := 40) (as := [vI x1]) (rest := []) (lo' := [iR 0, iI x1, none, none, none, none, none]) dD_least_40 mO_D_cheapest lV_D_281 sh_0 (by decide) cl_10 rfl rfl rfl rfl rfl rfl ?_
      exact H
    · have H := H.2 c3
      show Wq 6 0 0 mD_least 28 [iR 0, iI x1, iI x2, none] [vI 0] M _
      refine wq_if_ne (pc := 28) (tgt := 38) dD_least_28 (by decide) (fun q => absurd q (by decide)) (fun _ => ?_)
      refine wq_aload_n (pc := 31) dD_least_31 rfl rfl ?_
      refine wq_ldc (pc := 32) (z := (-1000001)) dD_least_32 kO_D_69 (by decide) ?_
      refine wq_callV (d' := 2) (pc := 34) (as := [vI (-1000001)]) (rest := []) (lo' := [iR 0, iI ((-1000001)), none]) dD_least_34 mO_D_finding lV_D_70 sh_0 (by decide) cl_10 rfl rfl rfl rfl rfl rfl ?_
      refine sp_D_finding (k := 1) (by decide) (by decide) (by decide) hS ?_
      show Wq 6 0 0 mD_least 37 [iR 0, iI x1, iI x2, none] [vI (-1000001)] (sI M 69 1 (wr (gI M 69 1 + 1))) _
      refine wq_ireturn (pc := 37) dD_least_37 trivial ?_
      exact H
  · have H := H.2 c1
    show Wq 6 0 0 mD_least 8 [iR 0, iI x1, iI x2, none] [vI 0] M _
    refine wq_if_eq (pc := 8) (tgt := 31) dD_least_8 (by decide) (fun _ => ?_) (fun q => absurd (by decide) q)
    refine wq_aload_n (pc := 31) dD_least_31 rfl rfl ?_
    refine wq_ldc (pc := 32) (z := (-1000001)) dD_least_32 kO_D_69 (by decide) ?_
    refine wq_callV (d' := 2) (pc := 34) (as := [vI (-1000001)]) (rest := []) (lo' := [iR 0, iI ((-1000001)), none]) dD_least_34 mO_D_finding lV_D_70 sh_0 (by decide) cl_10 rfl rfl rfl rfl rfl rfl ?_
    refine sp_D_finding (k := 1) (by decide) (by decide) (by decide) hS ?_
    show Wq 6 0 0 mD_least 37 [iR 0, iI x1, iI x2, none] [vI (-1000001)] (sI M 69 1 (wr (gI M 69 1 + 1))) _
    refine wq_ireturn (pc := 37) dD_least_37 trivial ?_
    exact H

set_option maxRecDepth 20000 in
theorem B_D_least_43 {x1 x2 y0 : Int} {M : Mm} {Q : Mm → Option Mv → Prop} (hS : RefOK M) (H : ((0 ≤ y0 → ((0 ≤ x2 → ((0 ≤ x2 ∧ x2 < 5) ∧ Q M (some (vI (gI M 71 x2))))) ∧ (¬ 0 ≤ x2 → Q M (some (vI y0))))) ∧ (¬ 0 ≤ y0 → Q (sI M 69 2 (wr (gI M 69 2 + 1))) (some (vI (-1000002)))))) : Wq 6 0 0 mD_least 43 [iR 0, iI x1, iI x2, none] [vI y0] M Q := by
  refine wq_istore_n (pc := 43) (lo' := [iR 0, iI x1, iI x2, iI y0]) dD_least_43 rfl rfl rfl ?_
  refine wq_iload_n (pc := 44) dD_least_44 rfl rfl ?_
  refine wq_if_ge (pc := 45) (tgt := 55) dD_least_45 (by decide) (fun c1 => ?_) (fun c1 => ?_)
  · have H := H.1 c1
    refine wq_iload_n (pc := 55) dD_least_55 rfl rfl ?_
    refine wq_if_ge (pc := 56) (tgt := 63) dD_least_56 (by decide) (fun c2 => ?_) (fun c2 => ?_)
    · have H := H.1 c2
      obtain ⟨s3, H⟩ := H
      refine wq_aload_n (pc := 63) dD_least_63 rfl rfl ?_
      refine wq_getR (pc := 64) (z := 8) (b := 71) dD_least_64 fO_D_53 sh_0 rfl rfl (rf_0_8 hS) ?_
      refine wq_iload_n (pc := 67) dD_least_67 rfl rfl ?_
      refine wq_iald (pc := 68) dD_least_68 sh_71 s3.1 s3.2 ?_
      refine wq_ireturn (pc := 69) dD_least_69 trivial ?_
      exact H
    · have H := H.2 c2
      refine wq_iload_n (pc := 59) dD_least_59 rfl rfl ?_
      refine wq_goto (pc := 60) (tgt := 69) dD_least_60 (by decide) ?_
      refine wq_ireturn (pc := 69) dD_least_69 trivial ?_
      exact H
  · have H := H.2 c1
    refine wq_aload_n (pc := 48) dD_least_48 rfl rfl ?_
    refine wq_ldc (pc := 49) (z := (-1000002)) dD_least_49 kO_D_125 (by decide) ?_
    refine wq_callV (d' := 2) (pc := 51) (as := [vI (-1000002)]) (rest := []) (lo' := [iR 0, iI ((-1000002)), none]) dD_least_51 mO_D_finding lV_D_70 sh_0 (by decide) cl_10 rfl rfl rfl rfl rfl rfl ?_
    refine sp_D_finding (k := 2) (by decide) (by decide) (by decide) hS ?_
    show Wq 6 0 0 mD_least 54 [iR 0, iI x1, iI x2, iI y0] [vI (-1000002)] (sI M 69 2 (wr (gI M 69 2 + 1))) _
    refine wq_ireturn (pc := 54) dD_least_54 trivial ?_
    exact H
set_option maxRecDepth 20000 in
theorem B_H_firstWrong_s0_0 {M : Mm} {Q : Mm → Option Mv → Prop} (H : Wq 2 0 0 mH_firstWrong 2 [iR 26, iR 72, iI 0] [] M Q) : Wq 2 0 0 mH_firstWrong 0 [iR 26, iR 72, none] [] M Q := by
  refine wq_iconst (pc := 0) dH_firstWrong_0 rfl ?_
  refine wq_istore_n (pc := 1) (lo' := [iR 26, iR 72, iI 0]) dH_firstWrong_1 rfl rfl rfl ?_
  exact H

set_option maxRecDepth 20000 in
theorem B_H_firstWrong_s0_2 {x2 : Int} {M : Mm} {Q : Mm → Option Mv → Prop} (hS : RefOK M) (H : ((gI M 26 3 ≤ x2 → ((gI M 72 2 ≤ gI M 26 3 → Q M (some (vI (-1)))) ∧ (¬ gI M 72 2 ≤ gI M 26 3 → Q M (some (vI (gI M 26 3)))))) ∧ (¬ gI M 26 3 ≤ x2 → ((gI M 72 2 ≤ x2 → Q M (some (vI x2))) ∧ (¬ gI M 72 2 ≤ x2 → (((0 ≤ x2 ∧ x2 < 24) ∧ (0 ≤ x2 ∧ x2 < 5)) ∧ ((0 ≤ gI M 73 x2 ∧ gI M 73 x2 ≤ gI M 28 x2 → ((-2147483648 ≤ x2 + 1 ∧ x2 + 1 < 2147483648) ∧ Wq 2 0 0 mH_firstWrong 2 [iR 26, iR 72, iI (x2 + 1)] [] M Q)) ∧ (¬ (0 ≤ gI M 73 x2 ∧ gI M 73 x2 ≤ gI M 28 x2) → Q M (some (vI x2)))))))))) : Wq 2 0 0 mH_firstWrong 2 [iR 26, iR 72, iI x2] [] M Q := by
  refine wq_iload_n (pc := 2) dH_firstWrong_2 rfl rfl ?_
  refine wq_aload_n (pc := 3) dH_firstWrong_3 rfl rfl ?_
  refine wq_getI (pc := 4) (z := 3) dH_firstWrong_4 fO_H_21 sh_26 rfl rfl ?_
  refine wq_icmp_ge (pc := 7) (tgt := 45) dH_firstWrong_7 (by decide) (fun c1 => ?_) (fun c1 => ?_)
  · have H := H.1 c1
    refine wq_aload_n (pc := 45) dH_firstWrong_45 rfl rfl ?_
    refine wq_getI (pc := 46) (z := 2) dH_firstWrong_46 fO_H_31 sh_72 rfl rfl ?_
    refine wq_aload_n (pc := 49) dH_firstWrong_49 rfl rfl ?_
    refine wq_getI (pc := 50) (z := 3) dH_firstWrong_50 fO_H_21 sh_26 rfl rfl ?_
    refine wq_icmp_le (pc := 53) (tgt := 63) dH_firstWrong_53 (by decide) (fun c2 => ?_) (fun c2 => ?_)
    · have H := H.1 c2
      refine wq_iconst (pc := 63) dH_firstWrong_63 rfl ?_
      refine wq_ireturn (pc := 64) dH_firstWrong_64 trivial ?_
      exact H
    · have H := H.2 c2
      refine wq_aload_n (pc := 56) dH_firstWrong_56 rfl rfl ?_
      refine wq_getI (pc := 57) (z := 3) dH_firstWrong_57 fO_H_21 sh_26 rfl rfl ?_
      refine wq_goto (pc := 60) (tgt := 64) dH_firstWrong_60 (by decide) ?_
      refine wq_ireturn (pc := 64) dH_firstWrong_64 trivial ?_
      exact H
  · have H := H.2 c1
    refine wq_iload_n (pc := 10) dH_firstWrong_10 rfl rfl ?_
    refine wq_aload_n (pc := 11) dH_firstWrong_11 rfl rfl ?_
    refine wq_getI (pc := 12) (z := 2) dH_firstWrong_12 fO_H_31 sh_72 rfl rfl ?_
    refine wq_icmp_ge (pc := 15) (tgt := 37) dH_firstWrong_15 (by decide) (fun c3 => ?_) (fun c3 => ?_)
    · have H := H.1 c3
      refine wq_iload_n (pc := 37) dH_firstWrong_37 rfl rfl ?_
      refine wq_ireturn (pc := 38) dH_firstWrong_38 trivial ?_
      exact H
    · have H := H.2 c3
      obtain ⟨⟨s4, s5⟩, H⟩ := H
      refine wq_aload_n (pc := 18) dH_firstWrong_18 rfl rfl ?_
      refine wq_getR (pc := 19) (z := 0) (b := 73) dH_firstWrong_19 fO_H_36 sh_72 rfl rfl (rf_72_0 hS) ?_
      refine wq_iload_n (pc := 22) dH_firstWrong_22 rfl rfl ?_
      refine wq_iald (pc := 23) dH_firstWrong_23 sh_73 s4.1 s4.2 ?_
      refine wq_iconst (pc := 24) dH_firstWrong_24 rfl ?_
      refine wq_aload_n (pc := 25) dH_firstWrong_25 rfl rfl ?_
      refine wq_getR (pc := 26) (z := 1) (b := 28) dH_firstWrong_26 fO_H_15 sh_26 rfl rfl (rf_26_1 hS) ?_
      refine wq_iload_n (pc := 29) dH_firstWrong_29 rfl rfl ?_
      refine wq_iald (pc := 30) dH_firstWrong_30 sh_28 s5.1 s5.2 ?_
      refine wq_callS (d' := 1) (pc := 31) (as := [vI (gI M 73 x2), vI 0, vI (gI M 28 x2)]) (rest := []) (lo' := [iI (gI M 73 x2), iI 0, iI (gI M 28 x2)]) dH_firstWrong_31 mO_D_within lS_H_39 rfl rfl rfl rfl rfl rfl ?_
      refine sp_D_within (fun c6 => ?_) (fun c6 => ?_)
      · have H := H.1 c6
        show Wq 2 0 0 mH_firstWrong 34 [iR 26, iR 72, iI x2] [vI 1] M _
        obtain ⟨s7, H⟩ := H
        refine wq_if_ne (pc := 34) (tgt := 39) dH_firstWrong_34 (by decide) (fun _ => ?_) (fun q => absurd q (by decide))
        refine wq_iinc (pc := 39) (lo' := [iR 26, iR 72, iI (x2 + 1)]) dH_firstWrong_39 rfl rfl (by rw [show wr (x2 + 1) = x2 + 1 from (Eq.trans (wr_eq (by omega) (by omega)) (by omega))]; rfl) ?_
        refine wq_goto (pc := 42) (tgt := 2) dH_firstWrong_42 (by decide) ?_
        exact H
      · have H := H.2 c6
        show Wq 2 0 0 mH_firstWrong 34 [iR 26, iR 72, iI x2] [vI 0] M _
        refine wq_if_ne (pc := 34) (tgt := 39) dH_firstWrong_34 (by decide) (fun q => absurd q (by decide)) (fun _ => ?_)
        refine wq_iload_n (pc := 37) dH_firstWrong_37 rfl rfl ?_
        refine wq_ireturn (pc := 38) dH_firstWrong_38 trivial ?_
        exact H
set_option maxRecDepth 20000 in
theorem B_H_firstWrong_s1_0 {M : Mm} {Q : Mm → Option Mv → Prop} (H : Wq 2 0 0 mH_firstWrong 2 [iR 26, iR 74, iI 0] [] M Q) : Wq 2 0 0 mH_firstWrong 0 [iR 26, iR 74, none] [] M Q := by
  refine wq_iconst (pc := 0) dH_firstWrong_0 rfl ?_
  refine wq_istore_n (pc := 1) (lo' := [iR 26, iR 74, iI 0]) dH_firstWrong_1 rfl rfl rfl ?_
  exact H

set_option maxRecDepth 20000 in
theorem B_H_firstWrong_s1_2 {x2 : Int} {M : Mm} {Q : Mm → Option Mv → Prop} (hS : RefOK M) (H : ((gI M 26 3 ≤ x2 → ((gI M 74 2 ≤ gI M 26 3 → Q M (some (vI (-1)))) ∧ (¬ gI M 74 2 ≤ gI M 26 3 → Q M (some (vI (gI M 26 3)))))) ∧ (¬ gI M 26 3 ≤ x2 → ((gI M 74 2 ≤ x2 → Q M (some (vI x2))) ∧ (¬ gI M 74 2 ≤ x2 → (((0 ≤ x2 ∧ x2 < 24) ∧ (0 ≤ x2 ∧ x2 < 5)) ∧ ((0 ≤ gI M 75 x2 ∧ gI M 75 x2 ≤ gI M 28 x2 → ((-2147483648 ≤ x2 + 1 ∧ x2 + 1 < 2147483648) ∧ Wq 2 0 0 mH_firstWrong 2 [iR 26, iR 74, iI (x2 + 1)] [] M Q)) ∧ (¬ (0 ≤ gI M 75 x2 ∧ gI M 75 x2 ≤ gI M 28 x2) → Q M (some (vI x2)))))))))) : Wq 2 0 0 mH_firstWrong 2 [iR 26, iR 74, iI x2] [] M Q := by
  refine wq_iload_n (pc := 2) dH_firstWrong_2 rfl rfl ?_
  refine wq_aload_n (pc := 3) dH_firstWrong_3 rfl rfl ?_
  refine wq_getI (pc := 4) (z := 3) dH_firstWrong_4 fO_H_21 sh_26 rfl rfl ?_
  refine wq_icmp_ge (pc := 7) (tgt := 45) dH_firstWrong_7 (by decide) (fun c1 => ?_) (fun c1 => ?_)
  · have H := H.1 c1
    refine wq_aload_n (pc := 45) dH_firstWrong_45 rfl rfl ?_
    refine wq_getI (pc := 46) (z := 2) dH_firstWrong_46 fO_H_31 sh_74 rfl rfl ?_
    refine wq_aload_n (pc := 49) dH_firstWrong_49 rfl rfl ?_
    refine wq_getI (pc := 50) (z := 3) dH_firstWrong_50 fO_H_21 sh_26 rfl rfl ?_
    refine wq_icmp_le (pc := 53) (tgt := 63) dH_firstWrong_53 (by decide) (fun c2 => ?_) (fun c2 => ?_)
    · have H := H.1 c2
      refine wq_iconst (pc := 63) dH_firstWrong_63 rfl ?_
      refine wq_ireturn (pc := 64) dH_firstWrong_64 trivial ?_
      exact H
    · have H := H.2 c2
      refine wq_aload_n (pc := 56) dH_firstWrong_56 rfl rfl ?_
      refine wq_getI (pc := 57) (z := 3) dH_firstWrong_57 fO_H_21 sh_26 rfl rfl ?_
      refine wq_goto (pc := 60) (tgt := 64) dH_firstWrong_60 (by decide) ?_
      refine wq_ireturn (pc := 64) dH_firstWrong_64 trivial ?_
      exact H
  · have H := H.2 c1
    refine wq_iload_n (pc := 10) dH_firstWrong_10 rfl rfl ?_
    refine wq_aload_n (pc := 11) dH_firstWrong_11 rfl rfl ?_
    refine wq_getI (pc := 12) (z := 2) dH_firstWrong_12 fO_H_31 sh_74 rfl rfl ?_
    refine wq_icmp_ge (pc := 15) (tgt := 37) dH_firstWrong_15 (by decide) (fun c3 => ?_) (fun c3 => ?_)
    · have H := H.1 c3
      refine wq_iload_n (pc := 37) dH_firstWrong_37 rfl rfl ?_
      refine wq_ireturn (pc := 38) dH_firstWrong_38 trivial ?_
      exact H
    · have H := H.2 c3
      obtain ⟨⟨s4, s5⟩, H⟩ := H
      refine wq_aload_n (pc := 18) dH_firstWrong_18 rfl rfl ?_
      refine wq_getR (pc := 19) (z := 0) (b := 75) dH_firstWrong_19 fO_H_36 sh_74 rfl rfl (rf_74_0 hS) ?_
      refine wq_iload_n (pc := 22) dH_firstWrong_22 rfl rfl ?_
      refine wq_iald (pc := 23) dH_firstWrong_23 sh_75 s4.1 s4.2 ?_
      refine wq_iconst (pc := 24) dH_firstWrong_24 rfl ?_
      refine wq_aload_n (pc := 25) dH_firstWrong_25 rfl rfl ?_
      refine wq_getR (pc := 26) (z := 1) (b := 28) dH_firstWrong_26 fO_H_15 sh_26 rfl rfl (rf_26_1 hS) ?_
      refine wq_iload_n (pc := 29) dH_firstWrong_29 rfl rfl ?_
      refine wq_iald (pc := 30) dH_firstWrong_30 sh_28 s5.1 s5.2 ?_
      refine wq_callS (d' := 1) (pc := 31) (as := [vI (gI M 75 x2), vI 0, vI (gI M 28 x2)]) (rest := []) (lo' := [iI (gI M 75 x2), iI 0, iI (gI M 28 x2)]) dH_firstWrong_31 mO_D_within lS_H_39 rfl rfl rfl rfl rfl rfl ?_
      refine sp_D_within (fun c6 => ?_) (fun c6 => ?_)
      · have H := H.1 c6
        show Wq 2 0 0 mH_firstWrong 34 [iR 26, iR 74, iI x2] [vI 1] M _
        obtain ⟨s7, H⟩ := H
        refine wq_if_ne (pc := 34) (tgt := 39) dH_firstWrong_34 (by decide) (fun _ => ?_) (fun q => absurd q (by decide))
        refine wq_iinc (pc := 39) (lo' := [iR 26, iR 74, iI (x2 + 1)]) dH_firstWrong_39 rfl rfl (by rw [show wr (x2 + 1) = x2 + 1 from (Eq.trans (wr_eq (by omega) (by omega)) (by omega))]; rfl) ?_
        refine wq_goto (pc := 42) (tgt := 2) dH_firstWrong_42 (by decide) ?_
        exact H
      · have H := H.2 c6
        show Wq 2 0 0 mH_firstWrong 34 [iR 26, iR 74, iI x2] [vI 0] M _
        refine wq_if_ne (pc := 34) (tgt := 39) dH_firstWrong_34 (by decide) (fun q => absurd q (by decide)) (fun _ => ?_)
        refine wq_iload_n (pc := 37) dH_firstWrong_37 rfl rfl ?_
        refine wq_ireturn (pc := 38) dH_firstWrong_38 trivial ?_
        exact H
set_option maxRecDepth 20000 in
theorem B_H_firstWrong_s2_0 {M : Mm} {Q : Mm → Option Mv → Prop} (H : Wq 2 0 0 mH_firstWrong 2 [iR 26, iR 76, iI 0] [] M Q) : Wq 2 0 0 mH_firstWrong 0 [iR 26, iR 76, none] [] M Q := by
  refine wq_iconst (pc := 0) dH_firstWrong_0 rfl ?_
  refine wq_istore_n (pc := 1) (lo' := [iR 26, iR 76, iI 0]) dH_firstWrong_1 rfl rfl rfl ?_
  exact H

set_option maxRecDepth 20000 in
theorem B_H_firstWrong_s2_2 {x2 : Int} {M : Mm} {Q : Mm → Option Mv → Prop} (hS : RefOK M) (H : ((gI M 26 3 ≤ x2 → ((gI M 76 2 ≤ gI M 26 3 → Q M (some (vI (-1)))) ∧ (¬ gI M 76 2 ≤ gI M 26 3 → Q M (some (vI (gI M 26 3)))))) ∧ (¬ gI M 26 3 ≤ x2 → ((gI M 76 2 ≤ x2 → Q M (some (vI x2))) ∧ (¬ gI M 76 2 ≤ x2 → (((0 ≤ x2 ∧ x2 < 24) ∧ (0 ≤ x2 ∧ x2 < 5)) ∧ ((0 ≤ gI M 77 x2 ∧ gI M 77 x2 ≤ gI M 28 x2 → ((-2147483648 ≤ x2 + 1 ∧ x2 + 1 < 2147483648) ∧ Wq 2 0 0 mH_firstWrong 2 [iR 26, iR 76, iI (x2 + 1)] [] M Q)) ∧ (¬ (0 ≤ gI M 77 x2 ∧ gI M 77 x2 ≤ gI M 28 x2) → Q M (some (vI x2)))))))))) : Wq 2 0 0 mH_firstWrong 2 [iR 26, iR 76, iI x2] [] M Q := by
  refine wq_iload_n (pc := 2) dH_firstWrong_2 rfl rfl ?_
  refine wq_aload_n (pc := 3) dH_firstWrong_3 rfl rfl ?_
  refine wq_getI (pc := 4) (z := 3) dH_firstWrong_4 fO_H_21 sh_26 rfl rfl ?_
  refine wq_icmp_ge (pc := 7) (tgt := 45) dH_firstWrong_7 (by decide) (fun c1 => ?_) (fun c1 => ?_)
  · have H := H.1 c1
    refine wq_aload_n (pc := 45) dH_firstWrong_45 rfl rfl ?_
    refine wq_getI (pc := 46) (z := 2) dH_firstWrong_46 fO_H_31 sh_76 rfl rfl ?_
    refine wq_aload_n (pc := 49) dH_firstWrong_49 rfl rfl ?_
    refine wq_getI (pc := 50) (z := 3) dH_firstWrong_50 fO_H_21 sh_26 rfl rfl ?_
    refine wq_icmp_le (pc := 53) (tgt := 63) dH_firstWrong_53 (by decide) (fun c2 => ?_) (fun c2 => ?_)
    · have H := H.1 c2
      refine wq_iconst (pc := 63) dH_firstWrong_63 rfl ?_
      refine wq_ireturn (pc := 64) dH_firstWrong_64 trivial ?_
      exact H
    · have H := H.2 c2
      refine wq_aload_n (pc := 56) dH_firstWrong_56 rfl rfl ?_
      refine wq_getI (pc := 57) (z := 3) dH_firstWrong_57 fO_H_21 sh_26 rfl rfl ?_
      refine wq_goto (pc := 60) (tgt := 64) dH_firstWrong_60 (by decide) ?_
      refine wq_ireturn (pc := 64) dH_firstWrong_64 trivial ?_
      exact H
  · have H := H.2 c1
    refine wq_iload_n (pc := 10) dH_firstWrong_10 rfl rfl ?_
    refine wq_aload_n (pc := 11) dH_firstWrong_11 rfl rfl ?_
    refine wq_getI (pc := 12) (z := 2) dH_firstWrong_12 fO_H_31 sh_76 rfl rfl ?_
    refine wq_icmp_ge (pc := 15) (tgt := 37) dH_firstWrong_15 (by decide) (fun c3 => ?_) (fun c3 => ?_)
    · have H := H.1 c3
      refine wq_iload_n (pc := 37) dH_firstWrong_37 rfl rfl ?_
      refine wq_ireturn (pc := 38) dH_firstWrong_38 trivial ?_
      exact H
    · have H := H.2 c3
      obtain ⟨⟨s4, s5⟩, H⟩ := H
      refine wq_aload_n (pc := 18) dH_firstWrong_18 rfl rfl ?_
      refine wq_getR (pc := 19) (z := 0) (b := 77) dH_firstWrong_19 fO_H_36 sh_76 rfl rfl (rf_76_0 hS) ?_
      refine wq_iload_n (pc := 22) dH_firstWrong_22 rfl rfl ?_
      refine wq_iald (pc := 23) dH_firstWrong_23 sh_77 s4.1 s4.2 ?_
      refine wq_iconst (pc := 24) dH_firstWrong_24 rfl ?_
      refine wq_aload_n (pc := 25) dH_firstWrong_25 rfl rfl ?_
      refine wq_getR (pc := 26) (z := 1) (b := 28) dH_firstWrong_26 fO_H_15 sh_26 rfl rfl (rf_26_1 hS) ?_
      refine wq_iload_n (pc := 29) dH_firstWrong_29 rfl rfl ?_
      refine wq_iald (pc := 30) dH_firstWrong_30 sh_28 s5.1 s5.2 ?_
      refine wq_callS (d' := 1) (pc := 31) (as := [vI (gI M 77 x2), vI 0, vI (gI M 28 x2)]) (rest := []) (lo' := [iI (gI M 77 x2), iI 0, iI (gI M 28 x2)]) dH_firstWrong_31 mO_D_within lS_H_39 rfl rfl rfl rfl rfl rfl ?_
      refine sp_D_within (fun c6 => ?_) (fun c6 => ?_)
      · have H := H.1 c6
        show Wq 2 0 0 mH_firstWrong 34 [iR 26, iR 76, iI x2] [vI 1] M _
        obtain ⟨s7, H⟩ := H
        refine wq_if_ne (pc := 34) (tgt := 39) dH_firstWrong_34 (by decide) (fun _ => ?_) (fun q => absurd q (by decide))
        refine wq_iinc (pc := 39) (lo' := [iR 26, iR 76, iI (x2 + 1)]) dH_firstWrong_39 rfl rfl (by rw [show wr (x2 + 1) = x2 + 1 from (Eq.trans (wr_eq (by omega) (by omega)) (by omega))]; rfl) ?_
        refine wq_goto (pc := 42) (tgt := 2) dH_firstWrong_42 (by decide) ?_
        exact H
      · have H := H.2 c6
        show Wq 2 0 0 mH_firstWrong 34 [iR 26, iR 76, iI x2] [vI 0] M _
        refine wq_if_ne (pc := 34) (tgt := 39) dH_firstWrong_34 (by decide) (fun q => absurd q (by decide)) (fun _ => ?_)
        refine wq_iload_n (pc := 37) dH_firstWrong_37 rfl rfl ?_
        refine wq_ireturn (pc := 38) dH_firstWrong_38 trivial ?_
        exact H
set_option maxRecDepth 20000 in
theorem B_H_firstWrong_s3_0 {M : Mm} {Q : Mm → Option Mv → Prop} (H : Wq 2 0 0 mH_firstWrong 2 [iR 26, iR 78, iI 0] [] M Q) : Wq 2 0 0 mH_firstWrong 0 [iR 26, iR 78, none] [] M Q := by
  refine wq_iconst (pc := 0) dH_firstWrong_0 rfl ?_
  refine wq_istore_n (pc := 1) (lo' := [iR 26, iR 78, iI 0]) dH_firstWrong_1 rfl rfl rfl ?_
  exact H

set_option maxRecDepth 20000 in
theorem B_H_firstWrong_s3_2 {x2 : Int} {M : Mm} {Q : Mm → Option Mv → Prop} (hS : RefOK M) (H : ((gI M 26 3 ≤ x2 → ((gI M 78 2 ≤ gI M 26 3 → Q M (some (vI (-1)))) ∧ (¬ gI M 78 2 ≤ gI M 26 3 → Q M (some (vI (gI M 26 3)))))) ∧ (¬ gI M 26 3 ≤ x2 → ((gI M 78 2 ≤ x2 → Q M (some (vI x2))) ∧ (¬ gI M 78 2 ≤ x2 → (((0 ≤ x2 ∧ x2 < 24) ∧ (0 ≤ x2 ∧ x2 < 5)) ∧ ((0 ≤ gI M 79 x2 ∧ gI M 79 x2 ≤ gI M 28 x2 → ((-2147483648 ≤ x2 + 1 ∧ x2 + 1 < 2147483648) ∧ Wq 2 0 0 mH_firstWrong 2 [iR 26, iR 78, iI (x2 + 1)] [] M Q)) ∧ (¬ (0 ≤ gI M 79 x2 ∧ gI M 79 x2 ≤ gI M 28 x2) → Q M (some (vI x2)))))))))) : Wq 2 0 0 mH_firstWrong 2 [iR 26, iR 78, iI x2] [] M Q := by
  refine wq_iload_n (pc := 2) dH_firstWrong_2 rfl rfl ?_
  refine wq_aload_n (pc := 3) dH_firstWrong_3 rfl rfl ?_
  refine wq_getI (pc := 4) (z := 3) dH_firstWrong_4 fO_H_21 sh_26 rfl rfl ?_
  refine wq_icmp_ge (pc := 7) (tgt := 45) dH_firstWrong_7 (by decide) (fun c1 => ?_) (fun c1 => ?_)
  · have H := H.1 c1
    refine wq_aload_n (pc := 45) dH_firstWrong_45 rfl rfl ?_
    refine wq_getI (pc := 46) (z := 2) dH_firstWrong_46 fO_H_31 sh_78 rfl rfl ?_
    refine wq_aload_n (pc := 49) dH_firstWrong_49 rfl rfl ?_
    refine wq_getI (pc := 50) (z := 3) dH_firstWrong_50 fO_H_21 sh_26 rfl rfl ?_
    refine wq_icmp_le (pc := 53) (tgt := 63) dH_firstWrong_53 (by decide) (fun c2 => ?_) (fun c2 => ?_)
    · have H := H.1 c2
      refine wq_iconst (pc := 63) dH_firstWrong_63 rfl ?_
      refine wq_ireturn (pc := 64) dH_firstWrong_64 trivial ?_
      exact H
    · have H := H.2 c2
      refine wq_aload_n (pc := 56) dH_firstWrong_56 rfl rfl ?_
      refine wq_getI (pc := 57) (z := 3) dH_firstWrong_57 fO_H_21 sh_26 rfl rfl ?_
      refine wq_goto (pc := 60) (tgt := 64) dH_firstWrong_60 (by decide) ?_
      refine wq_ireturn (pc := 64) dH_firstWrong_64 trivial ?_
      exact H
  · have H := H.2 c1
    refine wq_iload_n (pc := 10) dH_firstWrong_10 rfl rfl ?_
    refine wq_aload_n (pc := 11) dH_firstWrong_11 rfl rfl ?_
    refine wq_getI (pc := 12) (z := 2) dH_firstWrong_12 fO_H_31 sh_78 rfl rfl ?_
    refine wq_icmp_ge (pc := 15) (tgt := 37) dH_firstWrong_15 (by decide) (fun c3 => ?_) (fun c3 => ?_)
    · have H := H.1 c3
      refine wq_iload_n (pc := 37) dH_firstWrong_37 rfl rfl ?_
      refine wq_ireturn (pc := 38) dH_firstWrong_38 trivial ?_
      exact H
    · have H := H.2 c3
      obtain ⟨⟨s4, s5⟩, H⟩ := H
      refine wq_aload_n (pc := 18) dH_firstWrong_18 rfl rfl ?_
      refine wq_getR (pc := 19) (z := 0) (b := 79) dH_firstWrong_19 fO_H_36 sh_78 rfl rfl (rf_78_0 hS) ?_
      refine wq_iload_n (pc := 22) dH_firstWrong_22 rfl rfl ?_
      refine wq_iald (pc := 23) dH_firstWrong_23 sh_79 s4.1 s4.2 ?_
      refine wq_iconst (pc := 24) dH_firstWrong_24 rfl ?_
      refine wq_aload_n (pc := 25) dH_firstWrong_25 rfl rfl ?_
      refine wq_getR (pc := 26) (z := 1) (b := 28) dH_firstWrong_26 fO_H_15 sh_26 rfl rfl (rf_26_1 hS) ?_
      refine wq_iload_n (pc := 29) dH_firstWrong_29 rfl rfl ?_
      refine wq_iald (pc := 30) dH_firstWrong_30 sh_28 s5.1 s5.2 ?_
      refine wq_callS (d' := 1) (pc := 31) (as := [vI (gI M 79 x2), vI 0, vI (gI M 28 x2)]) (rest := []) (lo' := [iI (gI M 79 x2), iI 0, iI (gI M 28 x2)]) dH_firstWrong_31 mO_D_within lS_H_39 rfl rfl rfl rfl rfl rfl ?_
      refine sp_D_within (fun c6 => ?_) (fun c6 => ?_)
      · have H := H.1 c6
        show Wq 2 0 0 mH_firstWrong 34 [iR 26, iR 78, iI x2] [vI 1] M _
        obtain ⟨s7, H⟩ := H
        refine wq_if_ne (pc := 34) (tgt := 39) dH_firstWrong_34 (by decide) (fun _ => ?_) (fun q => absurd q (by decide))
        refine wq_iinc (pc := 39) (lo' := [iR 26, iR 78, iI (x2 + 1)]) dH_firstWrong_39 rfl rfl (by rw [show wr (x2 + 1) = x2 + 1 from (Eq.trans (wr_eq (by omega) (by omega)) (by omega))]; rfl) ?_
        refine wq_goto (pc := 42) (tgt := 2) dH_firstWrong_42 (by decide) ?_
        exact H
      · have H := H.2 c6
        show Wq 2 0 0 mH_firstWrong 34 [iR 26, iR 78, iI x2] [vI 0] M _
        refine wq_if_ne (pc := 34) (tgt := 39) dH_firstWrong_34 (by decide) (fun q => absurd q (by decide)) (fun _ => ?_)
        refine wq_iload_n (pc := 37) dH_firstWrong_37 rfl rfl ?_
        refine wq_ireturn (pc := 38) dH_firstWrong_38 trivial ?_
        exact H
set_option maxRecDepth 20000 in
theorem B_D_proves_0 {x1 x2 x3 : Int} {M : Mm} {Q : Mm → Option Mv → Prop} (hS : RefOK M) (H : ((0 ≤ x1 ∧ x1 ≤ 3 → ((0 ≤ x2 ∧ x2 ≤ 9999 → ((0 ≤ x3 → Wq 5 0 0 mD_proves 34 [iR 0, iI x1, iI x2, iI x3, none, none] [vI x1, vR 68] M Q) ∧ (¬ 0 ≤ x3 → Q (sI M 69 1 (wr (gI M 69 1 + 1))) (some (vI (-1000001)))))) ∧ (¬ (0 ≤ x2 ∧ x2 ≤ 9999) → Q (sI M 69 1 (wr (gI M 69 1 + 1))) (some (vI (-1000001)))))) ∧ (¬ (0 ≤ x1 ∧ x1 ≤ 3) → Q (sI M 69 1 (wr (gI M 69 1 + 1))) (some (vI (-1000001)))))) : Wq 5 0 0 mD_proves 0 [iR 0, iI x1, iI x2, iI x3, none, none] [] M Q := by
  refine wq_iload_n (pc := 0) dD_proves_0 rfl rfl ?_
  refine wq_callS (d' := 2) (pc := 1) (as := [vI x1]) (rest := []) (lo' := [iI x1]) dD_proves_1 mO_D_isSheet lS_D_284 rfl rfl rfl rfl rfl rfl ?_
  refine sp_D_isSheet (fun c1 => ?_) (fun c1 => ?_)
  · have H := H.1 c1
    show Wq 5 0 0 mD_proves 4 [iR 0, iI x1, iI x2, iI x3, none, none] [vI 1] M _
    refine wq_if_eq (pc := 4) (tgt := 22) dD_proves_4 (by decide) (fun q => absurd q (by decide)) (fun _ => ?_)
    refine wq_iload_n (pc := 7) dD_proves_7 rfl rfl ?_
    refine wq_iconst (pc := 8) dD_proves_8 rfl ?_
    refine wq_sipush (pc := 9) dD_proves_9 rfl ?_
    refine wq_callS (d' := 1) (pc := 12) (as := [vI x2, vI 0, vI 9999]) (rest := []) (lo' := [iI x2, iI 0, iI 9999]) dD_proves_12 mO_D_within lS_D_65 rfl rfl rfl rfl rfl rfl ?_
    refine sp_D_within (fun c2 => ?_) (fun c2 => ?_)
    · have H := H.1 c2
      show Wq 5 0 0 mD_proves 15 [iR 0, iI x1, iI x2, iI x3, none, none] [vI 1] M _
      refine wq_if_eq (pc := 15) (tgt := 22) dD_proves_15 (by decide) (fun q => absurd q (by decide)) (fun _ => ?_)
      refine wq_iload_n (pc := 18) dD_proves_18 rfl rfl ?_
      refine wq_if_ge (pc := 19) (tgt := 29) dD_proves_19 (by decide) (fun c3 => ?_) (fun c3 => ?_)
      · have H := H.1 c3
        refine wq_aload_n (pc := 29) dD_proves_29 rfl rfl ?_
        refine wq_getR (pc := 30) (z := 5) (b := 68) dD_proves_30 fO_D_42 sh_0 rfl rfl (rf_0_5 hS) ?_
        refine wq_iload_n (pc := 33) dD_proves_33 rfl rfl ?_
        exact H
      · have H := H.2 c3
        refine wq_aload_n (pc := 22) dD_proves_22 rfl rfl ?_
        refine wq_ldc (pc := 23) (z := (-1000001)) dD_proves_23 kO_D_69 (by decide) ?_
        refine wq_callV (d' := 2) (pc := 25) (as := [vI (-1000001)]) (rest := []) (lo' := [iR 0, iI ((-1000001)), none]) dD_proves_25 mO_D_finding lV_D_70 sh_0 (by decide) cl_10 rfl rfl rfl rfl rfl rfl ?_
        refine sp_D_finding (k := 1) (by decide) (by decide) (by decide) hS ?_
        show Wq 5 0 0 mD_proves 28 [iR 0, iI x1, iI x2, iI x3, none, none] [vI (-1000001)] (sI M 69 1 (wr (gI M 69 1 + 1))) _
        refine wq_ireturn (pc := 28) dD_proves_28 trivial ?_
        exact H
    · have H := H.2 c2
      show Wq 5 0 0 mD_proves 15 [iR 0, iI x1, iI x2, iI x3, none, none] [vI 0] M _
      refine wq_if_eq (pc := 15) (tgt := 22) dD_proves_15 (by decide) (fun _ => ?_) (fun q => absurd (by decide) q)
      refine wq_aload_n (pc := 22) dD_proves_22 rfl rfl ?_
      refine wq_ldc (pc := 23) (z := (-1000001)) dD_proves_23 kO_D_69 (by decide) ?_
      refine wq_callV (d' := 2) (pc := 25) (as := [vI (-1000001)]) (rest := []) (lo' := [iR 0, iI ((-1000001)), none]) dD_proves_25 mO_D_finding lV_D_70 sh_0 (by decide) cl_10 rfl rfl rfl rfl rfl rfl ?_
      refine sp_D_finding (k := 1) (by decide) (by decide) (by decide) hS ?_
      show Wq 5 0 0 mD_proves 28 [iR 0, iI x1, iI x2, iI x3, none, none] [vI (-1000001)] (sI M 69 1 (wr (gI M 69 1 + 1))) _
      refine wq_ireturn (pc := 28) dD_proves_28 trivial ?_
      exact H
  · have H := H.2 c1
    show Wq 5 0 0 mD_proves 4 [iR 0, iI x1, iI x2, iI x3, none, none] [vI 0] M _
    refine wq_if_eq (pc := 4) (tgt := 22) dD_proves_4 (by decide) (fun _ => ?_) (fun q => absurd (by decide) q)
    refine wq_aload_n (pc := 22) dD_proves_22 rfl rfl ?_
    refine wq_ldc (pc := 23) (z := (-1000001)) dD_proves_23 kO_D_69 (by decide) ?_
    refine wq_callV (d' := 2) (pc := 25) (as := [vI (-1000001)]) (rest := []) (lo' := [iR 0, iI ((-1000001)), none]) dD_proves_25 mO_D_finding lV_D_70 sh_0 (by decide) cl_10 rfl rfl rfl rfl rfl rfl ?_
    refine sp_D_finding (k := 1) (by decide) (by decide) (by decide) hS ?_
    show Wq 5 0 0 mD_proves 28 [iR 0, iI x1, iI x2, iI x3, none, none] [vI (-1000001)] (sI M 69 1 (wr (gI M 69 1 + 1))) _
    refine wq_ireturn (pc := 28) dD_proves_28 trivial ?_
    exact H
set_option maxRecDepth 20000 in
theorem B_D_proves_s0_0 {x2 x3 : Int} {M : Mm} {Q : Mm → Option Mv → Prop} (hS : RefOK M) (H : ((0 ≤ (0 : Int) ∧ (0 : Int) ≤ 3 → ((0 ≤ x2 ∧ x2 ≤ 9999 → ((0 ≤ x3 → ((¬ gI M 72 1 = 0 → Wq 2 0 0 mH_firstWrong 0 [iR 26, iR 72, none] [] M (fun M' v => Wq 5 0 0 mD_proves 64 [iR 0, iI 0, iI x2, iI x3, iR 72, none] (v.toList ++ []) M' Q)) ∧ (gI M 72 1 = 0 → Q (sI M 69 2 (wr (gI M 69 2 + 1))) (some (vI (-1000002)))))) ∧ (¬ 0 ≤ x3 → Q (sI M 69 1 (wr (gI M 69 1 + 1))) (some (vI (-1000001)))))) ∧ (¬ (0 ≤ x2 ∧ x2 ≤ 9999) → Q (sI M 69 1 (wr (gI M 69 1 + 1))) (some (vI (-1000001)))))) ∧ (¬ (0 ≤ (0 : Int) ∧ (0 : Int) ≤ 3) → Q (sI M 69 1 (wr (gI M 69 1 + 1))) (some (vI (-1000001)))))) : Wq 5 0 0 mD_proves 0 [iR 0, iI 0, iI x2, iI x3, none, none] [] M Q := by
  refine wq_iload_n (pc := 0) dD_proves_0 rfl rfl ?_
  refine wq_callS (d' := 2) (pc := 1) (as := [vI 0]) (rest := []) (lo' := [iI 0]) dD_proves_1 mO_D_isSheet lS_D_284 rfl rfl rfl rfl rfl rfl ?_
  refine sp_D_isSheet (fun c1 => ?_) (fun c1 => ?_)
  · have H := H.1 c1
    show Wq 5 0 0 mD_proves 4 [iR 0, iI 0, iI x2, iI x3, none, none] [vI 1] M _
    refine wq_if_eq (pc := 4) (tgt := 22) dD_proves_4 (by decide) (fun q => absurd q (by decide)) (fun _ => ?_)
    refine wq_iload_n (pc := 7) dD_proves_7 rfl rfl ?_
    refine wq_iconst (pc := 8) dD_proves_8 rfl ?_
    refine wq_sipush (pc := 9) dD_proves_9 rfl ?_
    refine wq_callS (d' := 1) (pc := 12) (as := [vI x2, vI 0, vI 9999]) (rest := []) (lo' := [iI x2, iI 0, iI 9999]) dD_proves_12 mO_D_within lS_D_65 rfl rfl rfl rfl rfl rfl ?_
    refine sp_D_within (fun c2 => ?_) (fun c2 => ?_)
    · have H := H.1 c2
      show Wq 5 0 0 mD_proves 15 [iR 0, iI 0, iI x2, iI x3, none, none] [vI 1] M _
      refine wq_if_eq (pc := 15) (tgt := 22) dD_proves_15 (by decide) (fun q => absurd q (by decide)) (fun _ => ?_)
      refine wq_iload_n (pc := 18) dD_proves_18 rfl rfl ?_
      refine wq_if_ge (pc := 19) (tgt := 29) dD_proves_19 (by decide) (fun c3 => ?_) (fun c3 => ?_)
      · have H := H.1 c3
        refine wq_aload_n (pc := 29) dD_proves_29 rfl rfl ?_
        refine wq_getR (pc := 30) (z := 5) (b := 68) dD_proves_30 fO_D_42 sh_0 rfl rfl (rf_0_5 hS) ?_
        refine wq_iload_n (pc := 33) dD_proves_33 rfl rfl ?_
        refine wq_aald (pc := 34) (b := 72) dD_proves_34 sh_68 (by decide) (by decide) (rf_68_0 hS) ?_
        refine wq_astore (pc := 35) (lo' := [iR 0, iI 0, iI x2, iI x3, iR 72, none]) dD_proves_35 rfl rfl ?_
        refine wq_aload (pc := 37) dD_proves_37 rfl ?_
        refine wq_getI (pc := 39) (z := 1) dD_proves_39 fO_D_287 sh_72 rfl rfl ?_
        refine wq_if_ne (pc := 42) (tgt := 52) dD_proves_42 (by decide) (fun c4 => ?_) (fun c4 => ?_)
        · have H := H.1 c4
          refine wq_aload_n (pc := 52) dD_proves_52 rfl rfl ?_
          refine wq_getR (pc := 53) (z := 0) (b := 1) dD_proves_53 fO_D_12 sh_0 rfl rfl (rf_0_0 hS) ?_
          refine wq_getR (pc := 56) (z := 4) (b := 26) dD_proves_56 fO_D_102 sh_1 rfl rfl (rf_1_4 hS) ?_
          refine wq_aload (pc := 59) dD_proves_59 rfl ?_
          refine wq_callV (d' := 2) (pc := 61) (as := [vR 72]) (rest := []) (lo' := [iR 26, iR 72, none]) dD_proves_61 mO_H_firstWrong lV_D_290 sh_26 (by decide) cl_3 rfl rfl rfl rfl rfl rfl ?_
          exact H
        · have H := H.2 c4
          refine wq_aload_n (pc := 45) dD_proves_45 rfl rfl ?_
          refine wq_ldc (pc := 46) (z := (-1000002)) dD_proves_46 kO_D_125 (by decide) ?_
          refine wq_callV (d' := 2) (pc := 48) (as := [vI (-1000002)]) (rest := []) (lo' := [iR 0, iI ((-1000002)), none]) dD_proves_48 mO_D_finding lV_D_70 sh_0 (by decide) cl_10 rfl rfl rfl rfl rfl rfl ?_
          refine sp_D_finding (k := 2) (by decide) (by decide) (by decide) hS ?_
          show Wq 5 0 0 mD_proves 51 [iR 0, iI 0, iI x2, iI x3, iR 72, none] [vI (-1000002)] (sI M 69 2 (wr (gI M 69 2 + 1))) _
          refine wq_ireturn (pc := 51) dD_proves_51 trivial ?_
          exact H
      · have H := H.2 c3
        refine wq_aload_n (pc := 22) dD_proves_22 rfl rfl ?_
        refine wq_ldc (pc := 23) (z := (-1000001)) dD_proves_23 kO_D_69 (by decide) ?_
        refine wq_callV (d' := 2) (pc := 25) (as := [vI (-1000001)]) (rest := []) (lo' := [iR 0, iI ((-1000001)), none]) dD_proves_25 mO_D_finding lV_D_70 sh_0 (by decide) cl_10 rfl rfl rfl rfl rfl rfl ?_
        refine sp_D_finding (k := 1) (by decide) (by decide) (by decide) hS ?_
        show Wq 5 0 0 mD_proves 28 [iR 0, iI 0, iI x2, iI x3, none, none] [vI (-1000001)] (sI M 69 1 (wr (gI M 69 1 + 1))) _
        refine wq_ireturn (pc := 28) dD_proves_28 trivial ?_
        exact H
    · have H := H.2 c2
      show Wq 5 0 0 mD_proves 15 [iR 0, iI 0, iI x2, iI x3, none, none] [vI 0] M _
      refine wq_if_eq (pc := 15) (tgt := 22) dD_proves_15 (by decide) (fun _ => ?_) (fun q => absurd (by decide) q)
      refine wq_aload_n (pc := 22) dD_proves_22 rfl rfl ?_
      refine wq_ldc (pc := 23) (z := (-1000001)) dD_proves_23 kO_D_69 (by decide) ?_
      refine wq_callV (d' := 2) (pc := 25) (as := [vI (-1000001)]) (rest := []) (lo' := [iR 0, iI ((-1000001)), none]) dD_proves_25 mO_D_finding lV_D_70 sh_0 (by decide) cl_10 rfl rfl rfl rfl rfl rfl ?_
      refine sp_D_finding (k := 1) (by decide) (by decide) (by decide) hS ?_
      show Wq 5 0 0 mD_proves 28 [iR 0, iI 0, iI x2, iI x3, none, none] [vI (-1000001)] (sI M 69 1 (wr (gI M 69 1 + 1))) _
      refine wq_ireturn (pc := 28) dD_proves_28 trivial ?_
      exact H
  · have H := H.2 c1
    show Wq 5 0 0 mD_proves 4 [iR 0, iI 0, iI x2, iI x3, none, none] [vI 0] M _
    refine wq_if_eq (pc := 4) (tgt := 22) dD_proves_4 (by decide) (fun _ => ?_) (fun q => absurd (by decide) q)
    refine wq_aload_n (pc := 22) dD_proves_22 rfl rfl ?_
    refine wq_ldc (pc := 23) (z := (-1000001)) dD_proves_23 kO_D_69 (by decide) ?_
    refine wq_callV (d' := 2) (pc := 25) (as := [vI (-1000001)]) (rest := []) (lo' := [iR 0, iI ((-1000001)), none]) dD_proves_25 mO_D_finding lV_D_70 sh_0 (by decide) cl_10 rfl rfl rfl rfl rfl rfl ?_
    refine sp_D_finding (k := 1) (by decide) (by decide) (by decide) hS ?_
    show Wq 5 0 0 mD_proves 28 [iR 0, iI 0, iI x2, iI x3, none, none] [vI (-1000001)] (sI M 69 1 (wr (gI M 69 1 + 1))) _
    refine wq_ireturn (pc := 28) dD_proves_28 trivial ?_
    exact H

set_option maxRecDepth 20000 in
theorem B_D_proves_s0_64 {x2 x3 y0 : Int} {M : Mm} {Q : Mm → Option Mv → Prop} (hS : RefOK M) (H : ((y0 < 0 → Wq 2 0 0 mD_knownToday 0 [iR 0] [] M (fun M' v => Wq 5 0 0 mD_proves 84 [iR 0, iI 0, iI x2, iI x3, iR 72, iI y0] (v.toList ++ [vR 73, vR 0]) M' Q)) ∧ (¬ y0 < 0 → Q M (some (vI y0))))) : Wq 5 0 0 mD_proves 64 [iR 0, iI 0, iI x2, iI x3, iR 72, none] [vI y0] M Q := by
  refine wq_istore (pc := 64) (lo' := [iR 0, iI 0, iI x2, iI x3, iR 72, iI y0]) dD_proves_64 rfl rfl ?_
  refine wq_iload (pc := 66) dD_proves_66 rfl ?_
  refine wq_if_lt (pc := 68) (tgt := 74) dD_proves_68 (by decide) (fun c1 => ?_) (fun c1 => ?_)
  · have H := H.1 c1
    refine wq_aload_n (pc := 74) dD_proves_74 rfl rfl ?_
    refine wq_aload (pc := 75) dD_proves_75 rfl ?_
    refine wq_getR (pc := 77) (z := 0) (b := 73) dD_proves_77 fO_D_294 sh_72 rfl rfl (rf_72_0 hS) ?_
    refine wq_aload_n (pc := 80) dD_proves_80 rfl rfl ?_
    refine wq_callV (d' := 2) (pc := 81) (as := []) (rest := [vR 73, vR 0]) (lo' := [iR 0]) dD_proves_81 mO_D_knownToday lV_D_272 sh_0 (by decide) cl_10 rfl rfl rfl rfl rfl rfl ?_
    exact H
  · have H := H.2 c1
    refine wq_iload (pc := 71) dD_proves_71 rfl ?_
    refine wq_ireturn (pc := 73) dD_proves_73 trivial ?_
    exact H

set_option maxRecDepth 20000 in
theorem B_D_proves_s0_84 {x2 x3 x5 y0 : Int} {M : Mm} {Q : Mm → Option Mv → Prop} (H : Wq 4 0 0 mD_endHurried 0 [iR 0, iR 73, iI y0, none] [] M (fun M' v => Wq 5 0 0 mD_proves 87 [iR 0, iI 0, iI x2, iI x3, iR 72, iI x5] (v.toList ++ []) M' Q)) : Wq 5 0 0 mD_proves 84 [iR 0, iI 0, iI x2, iI x3, iR 72, iI x5] [vI y0, vR 73, vR 0] M Q := by
  refine wq_callV (d' := 4) (pc := 84) (as := [vR 73, vI y0]) (rest := []) (lo' := [iR 0, iR 73, iI y0, none]) dD_proves_84 mO_D_endHurried lV_D_297 sh_0 (by decide) cl_10 rfl rfl rfl rfl rfl rfl ?_
  exact H

set_option maxRecDepth 20000 in
theorem B_D_proves_s0_87 {x2 x3 x5 y0 : Int} {M : Mm} {Q : Mm → Option Mv → Prop} (hS : RefOK M) (H : ((y0 ≤ x2 → Wq 1 0 0 mH_sumOf 0 [iR 26, iR 73, none, none] [] M (fun M' v => Wq 5 0 0 mD_proves 109 [iR 0, iI 0, iI x2, iI x3, iR 72, iI x5] (v.toList ++ []) M' Q)) ∧ (¬ y0 ≤ x2 → Q M (some (vI 100))))) : Wq 5 0 0 mD_proves 87 [iR 0, iI 0, iI x2, iI x3, iR 72, iI x5] [vI y0] M Q := by
  refine wq_iload_n (pc := 87) dD_proves_87 rfl rfl ?_
  refine wq_icmp_le (pc := 88) (tgt := 94) dD_proves_88 (by decide) (fun c1 => ?_) (fun c1 => ?_)
  · have H := H.1 c1
    refine wq_aload_n (pc := 94) dD_proves_94 rfl rfl ?_
    refine wq_getR (pc := 95) (z := 0) (b := 1) dD_proves_95 fO_D_12 sh_0 rfl rfl (rf_0_0 hS) ?_
    refine wq_getR (pc := 98) (z := 4) (b := 26) dD_proves_98 fO_D_102 sh_1 rfl rfl (rf_1_4 hS) ?_
    refine wq_aload (pc := 101) dD_proves_101 rfl ?_
    refine wq_getR (pc := 103) (z := 0) (b := 73) dD_proves_103 fO_D_294 sh_72 rfl rfl (rf_72_0 hS) ?_
    refine wq_callV (d' := 1) (pc := 106) (as := [vR 73]) (rest := []) (lo' := [iR 26, iR 73, none, none]) dD_proves_106 mO_H_sumOf lV_D_301 sh_26 (by decide) cl_3 rfl rfl rfl rfl rfl rfl ?_
    exact H
  · have H := H.2 c1
    refine wq_bipush (pc := 91) dD_proves_91 rfl ?_
    refine wq_ireturn (pc := 93) dD_proves_93 trivial ?_
    exact H

set_option maxRecDepth 20000 in
theorem B_D_proves_s0_109 {x2 x3 x5 y0 : Int} {M : Mm} {Q : Mm → Option Mv → Prop} (H : ((y0 ≤ x3 → Q M (some (vI (-1)))) ∧ (¬ y0 ≤ x3 → Q M (some (vI 101))))) : Wq 5 0 0 mD_proves 109 [iR 0, iI 0, iI x2, iI x3, iR 72, iI x5] [vI y0] M Q := by
  refine wq_iload_n (pc := 109) dD_proves_109 rfl rfl ?_
  refine wq_icmp_le (pc := 110) (tgt := 118) dD_proves_110 (by decide) (fun c1 => ?_) (fun c1 => ?_)
  · have H := H.1 c1
    refine wq_iconst (pc := 118) dD_proves_118 rfl ?_
    refine wq_ireturn (pc := 119) dD_proves_119 trivial ?_
    exact H
  · have H := H.2 c1
    refine wq_bipush (pc := 113) dD_proves_113 rfl ?_
    refine wq_goto (pc := 115) (tgt := 119) dD_proves_115 (by decide) ?_
    refine wq_ireturn (pc := 119) dD_proves_119 trivial ?_
    exact H
set_option maxRecDepth 20000 in
theorem B_D_proves_s1_0 {x2 x3 : Int} {M : Mm} {Q : Mm → Option Mv → Prop} (hS : RefOK M) (H : ((0 ≤ (1 : Int) ∧ (1 : Int) ≤ 3 → ((0 ≤ x2 ∧ x2 ≤ 9999 → ((0 ≤ x3 → ((¬ gI M 74 1 = 0 → Wq 2 0 0 mH_firstWrong 0 [iR 26, iR 74, none] [] M (fun M' v => Wq 5 0 0 mD_proves 64 [iR 0, iI 1, iI x2, iI x3, iR 74, none] (v.toList ++ []) M' Q)) ∧ (gI M 74 1 = 0 → Q (sI M 69 2 (wr (gI M 69 2 + 1))) (some (vI (-1000002)))))) ∧ (¬ 0 ≤ x3 → Q (sI M 69 1 (wr (gI M 69 1 + 1))) (some (vI (-1000001)))))) ∧ (¬ (0 ≤ x2 ∧ x2 ≤ 9999) → Q (sI M 69 1 (wr (gI M 69 1 + 1))) (some (vI (-1000001)))))) ∧ (¬ (0 ≤ (1 : Int) ∧ (1 : Int) ≤ 3) → Q (sI M 69 1 (wr (gI M 69 1 + 1))) (some (vI (-1000001)))))) : Wq 5 0 0 mD_proves 0 [iR 0, iI 1, iI x2, iI x3, none, none] [] M Q := by
  refine wq_iload_n (pc := 0) dD_proves_0 rfl rfl ?_
  refine wq_callS (d' := 2) (pc := 1) (as := [vI 1]) (rest := []) (lo' := [iI 1]) dD_proves_1 mO_D_isSheet lS_D_284 rfl rfl rfl rfl rfl rfl ?_
  refine sp_D_isSheet (fun c1 => ?_) (fun c1 => ?_)
  · have H := H.1 c1
    show Wq 5 0 0 mD_proves 4 [iR 0, iI 1, iI x2, iI x3, none, none] [vI 1] M _
    refine wq_if_eq (pc := 4) (tgt := 22) dD_proves_4 (by decide) (fun q => absurd q (by decide)) (fun _ => ?_)
    refine wq_iload_n (pc := 7) dD_proves_7 rfl rfl ?_
    refine wq_iconst (pc := 8) dD_proves_8 rfl ?_
    refine wq_sipush (pc := 9) dD_proves_9 rfl ?_
    refine wq_callS (d' := 1) (pc := 12) (as := [vI x2, vI 0, vI 9999]) (rest := []) (lo' := [iI x2, iI 0, iI 9999]) dD_proves_12 mO_D_within lS_D_65 rfl rfl rfl rfl rfl rfl ?_
    refine sp_D_within (fun c2 => ?_) (fun c2 => ?_)
    · have H := H.1 c2
      show Wq 5 0 0 mD_proves 15 [iR 0, iI 1, iI x2, iI x3, none, none] [vI 1] M _
      refine wq_if_eq (pc := 15) (tgt := 22) dD_proves_15 (by decide) (fun q => absurd q (by decide)) (fun _ => ?_)
      refine wq_iload_n (pc := 18) dD_proves_18 rfl rfl ?_
      refine wq_if_ge (pc := 19) (tgt := 29) dD_proves_19 (by decide) (fun c3 => ?_) (fun c3 => ?_)
      · have H := H.1 c3
        refine wq_aload_n (pc := 29) dD_proves_29 rfl rfl ?_
        refine wq_getR (pc := 30) (z := 5) (b := 68) dD_proves_30 fO_D_42 sh_0 rfl rfl (rf_0_5 hS) ?_
        refine wq_iload_n (pc := 33) dD_proves_33 rfl rfl ?_
        refine wq_aald (pc := 34) (b := 74) dD_proves_34 sh_68 (by decide) (by decide) (rf_68_1 hS) ?_
        refine wq_astore (pc := 35) (lo' := [iR 0, iI 1, iI x2, iI x3, iR 74, none]) dD_proves_35 rfl rfl ?_
        refine wq_aload (pc := 37) dD_proves_37 rfl ?_
        refine wq_getI (pc := 39) (z := 1) dD_proves_39 fO_D_287 sh_74 rfl rfl ?_
        refine wq_if_ne (pc := 42) (tgt := 52) dD_proves_42 (by decide) (fun c4 => ?_) (fun c4 => ?_)
        · have H := H.1 c4
          refine wq_aload_n (pc := 52) dD_proves_52 rfl rfl ?_
          refine wq_getR (pc := 53) (z := 0) (b := 1) dD_proves_53 fO_D_12 sh_0 rfl rfl (rf_0_0 hS) ?_
          refine wq_getR (pc := 56) (z := 4) (b := 26) dD_proves_56 fO_D_102 sh_1 rfl rfl (rf_1_4 hS) ?_
          refine wq_aload (pc := 59) dD_proves_59 rfl ?_
          refine wq_callV (d' := 2) (pc := 61) (as := [vR 74]) (rest := []) (lo' := [iR 26, iR 74, none]) dD_proves_61 mO_H_firstWrong lV_D_290 sh_26 (by decide) cl_3 rfl rfl rfl rfl rfl rfl ?_
          exact H
        · have H := H.2 c4
          refine wq_aload_n (pc := 45) dD_proves_45 rfl rfl ?_
          refine wq_ldc (pc := 46) (z := (-1000002)) dD_proves_46 kO_D_125 (by decide) ?_
          refine wq_callV (d' := 2) (pc := 48) (as := [vI (-1000002)]) (rest := []) (lo' := [iR 0, iI ((-1000002)), none]) dD_proves_48 mO_D_finding lV_D_70 sh_0 (by decide) cl_10 rfl rfl rfl rfl rfl rfl ?_
          refine sp_D_finding (k := 2) (by decide) (by decide) (by decide) hS ?_
          show Wq 5 0 0 mD_proves 51 [iR 0, iI 1, iI x2, iI x3, iR 74, none] [vI (-1000002)] (sI M 69 2 (wr (gI M 69 2 + 1))) _
          refine wq_ireturn (pc := 51) dD_proves_51 trivial ?_
          exact H
      · have H := H.2 c3
        refine wq_aload_n (pc := 22) dD_proves_22 rfl rfl ?_
        refine wq_ldc (pc := 23) (z := (-1000001)) dD_proves_23 kO_D_69 (by decide) ?_
        refine wq_callV (d' := 2) (pc := 25) (as := [vI (-1000001)]) (rest := []) (lo' := [iR 0, iI ((-1000001)), none]) dD_proves_25 mO_D_finding lV_D_70 sh_0 (by decide) cl_10 rfl rfl rfl rfl rfl rfl ?_
        refine sp_D_finding (k := 1) (by decide) (by decide) (by decide) hS ?_
        show Wq 5 0 0 mD_proves 28 [iR 0, iI 1, iI x2, iI x3, none, none] [vI (-1000001)] (sI M 69 1 (wr (gI M 69 1 + 1))) _
        refine wq_ireturn (pc := 28) dD_proves_28 trivial ?_
        exact H
    · have H := H.2 c2
      show Wq 5 0 0 mD_proves 15 [iR 0, iI 1, iI x2, iI x3, none, none] [vI 0] M _
      refine wq_if_eq (pc := 15) (tgt := 22) dD_proves_15 (by decide) (fun _ => ?_) (fun q => absurd (by decide) q)
      refine wq_aload_n (pc := 22) dD_proves_22 rfl rfl ?_
      refine wq_ldc (pc := 23) (z := (-1000001)) dD_proves_23 kO_D_69 (by decide) ?_
      refine wq_callV (d' := 2) (pc := 25) (as := [vI (-1000001)]) (rest := []) (lo' := [iR 0, iI ((-1000001)), none]) dD_proves_25 mO_D_finding lV_D_70 sh_0 (by decide) cl_10 rfl rfl rfl rfl rfl rfl ?_
      refine sp_D_finding (k := 1) (by decide) (by decide) (by decide) hS ?_
      show Wq 5 0 0 mD_proves 28 [iR 0, iI 1, iI x2, iI x3, none, none] [vI (-1000001)] (sI M 69 1 (wr (gI M 69 1 + 1))) _
      refine wq_ireturn (pc := 28) dD_proves_28 trivial ?_
      exact H
  · have H := H.2 c1
    show Wq 5 0 0 mD_proves 4 [iR 0, iI 1, iI x2, iI x3, none, none] [vI 0] M _
    refine wq_if_eq (pc := 4) (tgt := 22) dD_proves_4 (by decide) (fun _ => ?_) (fun q => absurd (by decide) q)
    refine wq_aload_n (pc := 22) dD_proves_22 rfl rfl ?_
    refine wq_ldc (pc := 23) (z := (-1000001)) dD_proves_23 kO_D_69 (by decide) ?_
    refine wq_callV (d' := 2) (pc := 25) (as := [vI (-1000001)]) (rest := []) (lo' := [iR 0, iI ((-1000001)), none]) dD_proves_25 mO_D_finding lV_D_70 sh_0 (by decide) cl_10 rfl rfl rfl rfl rfl rfl ?_
    refine sp_D_finding (k := 1) (by decide) (by decide) (by decide) hS ?_
    show Wq 5 0 0 mD_proves 28 [iR 0, iI 1, iI x2, iI x3, none, none] [vI (-1000001)] (sI M 69 1 (wr (gI M 69 1 + 1))) _
    refine wq_ireturn (pc := 28) dD_proves_28 trivial ?_
    exact H

set_option maxRecDepth 20000 in
theorem B_D_proves_s1_64 {x2 x3 y0 : Int} {M : Mm} {Q : Mm → Option Mv → Prop} (hS : RefOK M) (H : ((y0 < 0 → Wq 2 0 0 mD_knownToday 0 [iR 0] [] M (fun M' v => Wq 5 0 0 mD_proves 84 [iR 0, iI 1, iI x2, iI x3, iR 74, iI y0] (v.toList ++ [vR 75, vR 0]) M' Q)) ∧ (¬ y0 < 0 → Q M (some (vI y0))))) : Wq 5 0 0 mD_proves 64 [iR 0, iI 1, iI x2, iI x3, iR 74, none] [vI y0] M Q := by
  refine wq_istore (pc := 64) (lo' := [iR 0, iI 1, iI x2, iI x3, iR 74, iI y0]) dD_proves_64 rfl rfl ?_
  refine wq_iload (pc := 66) dD_proves_66 rfl ?_
  refine wq_if_lt (pc := 68) (tgt := 74) dD_proves_68 (by decide) (fun c1 => ?_) (fun c1 => ?_)
  · have H := H.1 c1
    refine wq_aload_n (pc := 74) dD_proves_74 rfl rfl ?_
    refine wq_aload (pc := 75) dD_proves_75 rfl ?_
    refine wq_getR (pc := 77) (z := 0) (b := 75) dD_proves_77 fO_D_294 sh_74 rfl rfl (rf_74_0 hS) ?_
    refine wq_aload_n (pc := 80) dD_proves_80 rfl rfl ?_
    refine wq_callV (d' := 2) (pc := 81) (as := []) (rest := [vR 75, vR 0]) (lo' := [iR 0]) dD_proves_81 mO_D_knownToday lV_D_272 sh_0 (by decide) cl_10 rfl rfl rfl rfl rfl rfl ?_
    exact H
  · have H := H.2 c1
    refine wq_iload (pc := 71) dD_proves_71 rfl ?_
    refine wq_ireturn (pc := 73) dD_proves_73 trivial ?_
    exact H

set_option maxRecDepth 20000 in
theorem B_D_proves_s1_84 {x2 x3 x5 y0 : Int} {M : Mm} {Q : Mm → Option Mv → Prop} (H : Wq 4 0 0 mD_endHurried 0 [iR 0, iR 75, iI y0, none] [] M (fun M' v => Wq 5 0 0 mD_proves 87 [iR 0, iI 1, iI x2, iI x3, iR 74, iI x5] (v.toList ++ []) M' Q)) : Wq 5 0 0 mD_proves 84 [iR 0, iI 1, iI x2, iI x3, iR 74, iI x5] [vI y0, vR 75, vR 0] M Q := by
  refine wq_callV (d' := 4) (pc := 84) (as := [vR 75, vI y0]) (rest := []) (lo' := [iR 0, iR 75, iI y0, none]) dD_proves_84 mO_D_endHurried lV_D_297 sh_0 (by decide) cl_10 rfl rfl rfl rfl rfl rfl ?_
  exact H

set_option maxRecDepth 20000 in
theorem B_D_proves_s1_87 {x2 x3 x5 y0 : Int} {M : Mm} {Q : Mm → Option Mv → Prop} (hS : RefOK M) (H : ((y0 ≤ x2 → Wq 1 0 0 mH_sumOf 0 [iR 26, iR 75, none, none] [] M (fun M' v => Wq 5 0 0 mD_proves 109 [iR 0, iI 1, iI x2, iI x3, iR 74, iI x5] (v.toList ++ []) M' Q)) ∧ (¬ y0 ≤ x2 → Q M (some (vI 100))))) : Wq 5 0 0 mD_proves 87 [iR 0, iI 1, iI x2, iI x3, iR 74, iI x5] [vI y0] M Q := by
  refine wq_iload_n (pc := 87) dD_proves_87 rfl rfl ?_
  refine wq_icmp_le (pc := 88) (tgt := 94) dD_proves_88 (by decide) (fun c1 => ?_) (fun c1 => ?_)
  · have H := H.1 c1
    refine wq_aload_n (pc := 94) dD_proves_94 rfl rfl ?_
    refine wq_getR (pc := 95) (z := 0) (b := 1) dD_proves_95 fO_D_12 sh_0 rfl rfl (rf_0_0 hS) ?_
    refine wq_getR (pc := 98) (z := 4) (b := 26) dD_proves_98 fO_D_102 sh_1 rfl rfl (rf_1_4 hS) ?_
    refine wq_aload (pc := 101) dD_proves_101 rfl ?_
    refine wq_getR (pc := 103) (z := 0) (b := 75) dD_proves_103 fO_D_294 sh_74 rfl rfl (rf_74_0 hS) ?_
    refine wq_callV (d' := 1) (pc := 106) (as := [vR 75]) (rest := []) (lo' := [iR 26, iR 75, none, none]) dD_proves_106 mO_H_sumOf lV_D_301 sh_26 (by decide) cl_3 rfl rfl rfl rfl rfl rfl ?_
    exact H
  · have H := H.2 c1
    refine wq_bipush (pc := 91) dD_proves_91 rfl ?_
    refine wq_ireturn (pc := 93) dD_proves_93 trivial ?_
    exact H

set_option maxRecDepth 20000 in
theorem B_D_proves_s1_109 {x2 x3 x5 y0 : Int} {M : Mm} {Q : Mm → Option Mv → Prop} (H : ((y0 ≤ x3 → Q M (some (vI (-1)))) ∧ (¬ y0 ≤ x3 → Q M (some (vI 101))))) : Wq 5 0 0 mD_proves 109 [iR 0, iI 1, iI x2, iI x3, iR 74, iI x5] [vI y0] M Q := by
  refine wq_iload_n (pc := 109) dD_proves_109 rfl rfl ?_
  refine wq_icmp_le (pc := 110) (tgt := 118) dD_proves_110 (by decide) (fun c1 => ?_) (fun c1 => ?_)
  · have H := H.1 c1
    refine wq_iconst (pc := 118) dD_proves_118 rfl ?_
    refine wq_ireturn (pc := 119) dD_proves_119 trivial ?_
    exact H
  · have H := H.2 c1
    refine wq_bipush (pc := 113) dD_proves_113 rfl ?_
    refine wq_goto (pc := 115) (tgt := 119) dD_proves_115 (by decide) ?_
    refine wq_ireturn (pc := 119) dD_proves_119 trivial ?_
    exact H
set_option maxRecDepth 20000 in
theorem B_D_proves_s2_0 {x2 x3 : Int} {M : Mm} {Q : Mm → Option Mv → Prop} (hS : RefOK M) (H : ((0 ≤ (2 : Int) ∧ (2 : Int) ≤ 3 → ((0 ≤ x2 ∧ x2 ≤ 9999 → ((0 ≤ x3 → ((¬ gI M 76 1 = 0 → Wq 2 0 0 mH_firstWrong 0 [iR 26, iR 76, none] [] M (fun M' v => Wq 5 0 0 mD_proves 64 [iR 0, iI 2, iI x2, iI x3, iR 76, none] (v.toList ++ []) M' Q)) ∧ (gI M 76 1 = 0 → Q (sI M 69 2 (wr (gI M 69 2 + 1))) (some (vI (-1000002)))))) ∧ (¬ 0 ≤ x3 → Q (sI M 69 1 (wr (gI M 69 1 + 1))) (some (vI (-1000001)))))) ∧ (¬ (0 ≤ x2 ∧ x2 ≤ 9999) → Q (sI M 69 1 (wr (gI M 69 1 + 1))) (some (vI (-1000001)))))) ∧ (¬ (0 ≤ (2 : Int) ∧ (2 : Int) ≤ 3) → Q (sI M 69 1 (wr (gI M 69 1 + 1))) (some (vI (-1000001)))))) : Wq 5 0 0 mD_proves 0 [iR 0, iI 2, iI x2, iI x3, none, none] [] M Q := by
  refine wq_iload_n (pc := 0) dD_proves_0 rfl rfl ?_
  refine wq_callS (d' := 2) (pc := 1) (as := [vI 2]) (rest := []) (lo' := [iI 2]) dD_proves_1 mO_D_isSheet lS_D_284 rfl rfl rfl rfl rfl rfl ?_
  refine sp_D_isSheet (fun c1 => ?_) (fun c1 => ?_)
  · have H := H.1 c1
    show Wq 5 0 0 mD_proves 4 [iR 0, iI 2, iI x2, iI x3, none, none] [vI 1] M _
    refine wq_if_eq (pc := 4) (tgt := 22) dD_proves_4 (by decide) (fun q => absurd q (by decide)) (fun _ => ?_)
    refine wq_iload_n (pc := 7) dD_proves_7 rfl rfl ?_
    refine wq_iconst (pc := 8) dD_proves_8 rfl ?_
    refine wq_sipush (pc := 9) dD_proves_9 rfl ?_
    refine wq_callS (d' := 1) (pc := 12) (as := [vI x2, vI 0, vI 9999]) (rest := []) (lo' := [iI x2, iI 0, iI 9999]) dD_proves_12 mO_D_within lS_D_65 rfl rfl rfl rfl rfl rfl ?_
    refine sp_D_within (fun c2 => ?_) (fun c2 => ?_)
    · have H := H.1 c2
      show Wq 5 0 0 mD_proves 15 [iR 0, iI 2, iI x2, iI x3, none, none] [vI 1] M _
      refine wq_if_eq (pc := 15) (tgt := 22) dD_proves_15 (by decide) (fun q => absurd q (by decide)) (fun _ => ?_)
      refine wq_iload_n (pc := 18) dD_proves_18 rfl rfl ?_
      refine wq_if_ge (pc := 19) (tgt := 29) dD_proves_19 (by decide) (fun c3 => ?_) (fun c3 => ?_)
      · have H := H.1 c3
        refine wq_aload_n (pc := 29) dD_proves_29 rfl rfl ?_
        refine wq_getR (pc := 30) (z := 5) (b := 68) dD_proves_30 fO_D_42 sh_0 rfl rfl (rf_0_5 hS) ?_
        refine wq_iload_n (pc := 33) dD_proves_33 rfl rfl ?_
        refine wq_aald (pc := 34) (b := 76) dD_proves_34 sh_68 (by decide) (by decide) (rf_68_2 hS) ?_
        refine wq_astore (pc := 35) (lo' := [iR 0, iI 2, iI x2, iI x3, iR 76, none]) dD_proves_35 rfl rfl ?_
        refine wq_aload (pc := 37) dD_proves_37 rfl ?_
        refine wq_getI (pc := 39) (z := 1) dD_proves_39 fO_D_287 sh_76 rfl rfl ?_
        refine wq_if_ne (pc := 42) (tgt := 52) dD_proves_42 (by decide) (fun c4 => ?_) (fun c4 => ?_)
        · have H := H.1 c4
          refine wq_aload_n (pc := 52) dD_proves_52 rfl rfl ?_
          refine wq_getR (pc := 53) (z := 0) (b := 1) dD_proves_53 fO_D_12 sh_0 rfl rfl (rf_0_0 hS) ?_
          refine wq_getR (pc := 56) (z := 4) (b := 26) dD_proves_56 fO_D_102 sh_1 rfl rfl (rf_1_4 hS) ?_
          refine wq_aload (pc := 59) dD_proves_59 rfl ?_
          refine wq_callV (d' := 2) (pc := 61) (as := [vR 76]) (rest := []) (lo' := [iR 26, iR 76, none]) dD_proves_61 mO_H_firstWrong lV_D_290 sh_26 (by decide) cl_3 rfl rfl rfl rfl rfl rfl ?_
          exact H
        · have H := H.2 c4
          refine wq_aload_n (pc := 45) dD_proves_45 rfl rfl ?_
          refine wq_ldc (pc := 46) (z := (-1000002)) dD_proves_46 kO_D_125 (by decide) ?_
          refine wq_callV (d' := 2) (pc := 48) (as := [vI (-1000002)]) (rest := []) (lo' := [iR 0, iI ((-1000002)), none]) dD_proves_48 mO_D_finding lV_D_70 sh_0 (by decide) cl_10 rfl rfl rfl rfl rfl rfl ?_
          refine sp_D_finding (k := 2) (by decide) (by decide) (by decide) hS ?_
          show Wq 5 0 0 mD_proves 51 [iR 0, iI 2, iI x2, iI x3, iR 76, none] [vI (-1000002)] (sI M 69 2 (wr (gI M 69 2 + 1))) _
          refine wq_ireturn (pc := 51) dD_proves_51 trivial ?_
          exact H
      · have H := H.2 c3
        refine wq_aload_n (pc := 22) dD_proves_22 rfl rfl ?_
        refine wq_ldc (pc := 23) (z := (-1000001)) dD_proves_23 kO_D_69 (by decide) ?_
        refine wq_callV (d' := 2) (pc := 25) (as := [vI (-1000001)]) (rest := []) (lo' := [iR 0, iI ((-1000001)), none]) dD_proves_25 mO_D_finding lV_D_70 sh_0 (by decide) cl_10 rfl rfl rfl rfl rfl rfl ?_
        refine sp_D_finding (k := 1) (by decide) (by decide) (by decide) hS ?_
        show Wq 5 0 0 mD_proves 28 [iR 0, iI 2, iI x2, iI x3, none, none] [vI (-1000001)] (sI M 69 1 (wr (gI M 69 1 + 1))) _
        refine wq_ireturn (pc := 28) dD_proves_28 trivial ?_
        exact H
    · have H := H.2 c2
      show Wq 5 0 0 mD_proves 15 [iR 0, iI 2, iI x2, iI x3, none, none] [vI 0] M _
      refine wq_if_eq (pc := 15) (tgt := 22) dD_proves_15 (by decide) (fun _ => ?_) (fun q => absurd (by decide) q)
      refine wq_aload_n (pc := 22) dD_proves_22 rfl rfl ?_
      refine wq_ldc (pc := 23) (z := (-1000001)) dD_proves_23 kO_D_69 (by decide) ?_
      refine wq_callV (d' := 2) (pc := 25) (as := [vI (-1000001)]) (rest := []) (lo' := [iR 0, iI ((-1000001)), none]) dD_proves_25 mO_D_finding lV_D_70 sh_0 (by decide) cl_10 rfl rfl rfl rfl rfl rfl ?_
      refine sp_D_finding (k := 1) (by decide) (by decide) (by decide) hS ?_
      show Wq 5 0 0 mD_proves 28 [iR 0, iI 2, iI x2, iI x3, none, none] [vI (-1000001)] (sI M 69 1 (wr (gI M 69 1 + 1))) _
      refine wq_ireturn (pc := 28) dD_proves_28 trivial ?_
      exact H
  · have H := H.2 c1
    show Wq 5 0 0 mD_proves 4 [iR 0, iI 2, iI x2, iI x3, none, none] [vI 0] M _
    refine wq_if_eq (pc := 4) (tgt := 22) dD_proves_4 (by decide) (fun _ => ?_) (fun q => absurd (by decide) q)
    refine wq_aload_n (pc := 22) dD_proves_22 rfl rfl ?_
    refine wq_ldc (pc := 23) (z := (-1000001)) dD_proves_23 kO_D_69 (by decide) ?_
    refine wq_callV (d' := 2) (pc := 25) (as := [vI (-1000001)]) (rest := []) (lo' := [iR 0, iI ((-1000001)), none]) dD_proves_25 mO_D_finding lV_D_70 sh_0 (by decide) cl_10 rfl rfl rfl rfl rfl rfl ?_
    refine sp_D_finding (k := 1) (by decide) (by decide) (by decide) hS ?_
    show Wq 5 0 0 mD_proves 28 [iR 0, iI 2, iI x2, iI x3, none, none] [vI (-1000001)] (sI M 69 1 (wr (gI M 69 1 + 1))) _
    refine wq_ireturn (pc := 28) dD_proves_28 trivial ?_
    exact H

set_option maxRecDepth 20000 in
theorem B_D_proves_s2_64 {x2 x3 y0 : Int} {M : Mm} {Q : Mm → Option Mv → Prop} (hS : RefOK M) (H : ((y0 < 0 → Wq 2 0 0 mD_knownToday 0 [iR 0] [] M (fun M' v => Wq 5 0 0 mD_proves 84 [iR 0, iI 2, iI x2, iI x3, iR 76, iI y0] (v.toList ++ [vR 77, vR 0]) M' Q)) ∧ (¬ y0 < 0 → Q M (some (vI y0))))) : Wq 5 0 0 mD_proves 64 [iR 0, iI 2, iI x2, iI x3, iR 76, none] [vI y0] M Q := by
  refine wq_istore (pc := 64) (lo' := [iR 0, iI 2, iI x2, iI x3, iR 76, iI y0]) dD_proves_64 rfl rfl ?_
  refine wq_iload (pc := 66) dD_proves_66 rfl ?_
  refine wq_if_lt (pc := 68) (tgt := 74) dD_proves_68 (by decide) (fun c1 => ?_) (fun c1 => ?_)
  · have H := H.1 c1
    refine wq_aload_n (pc := 74) dD_proves_74 rfl rfl ?_
    refine wq_aload (pc := 75) dD_proves_75 rfl ?_
    refine wq_getR (pc := 77) (z := 0) (b := 77) dD_proves_77 fO_D_294 sh_76 rfl rfl (rf_76_0 hS) ?_
    refine wq_aload_n (pc := 80) dD_proves_80 rfl rfl ?_
    refine wq_callV (d' := 2) (pc := 81) (as := []) (rest := [vR 77, vR 0]) (lo' := [iR 0]) dD_proves_81 mO_D_knownToday lV_D_272 sh_0 (by decide) cl_10 rfl rfl rfl rfl rfl rfl ?_
    exact H
  · have H := H.2 c1
    refine wq_iload (pc := 71) dD_proves_71 rfl ?_
    refine wq_ireturn (pc := 73) dD_proves_73 trivial ?_
    exact H

set_option maxRecDepth 20000 in
theorem B_D_proves_s2_84 {x2 x3 x5 y0 : Int} {M : Mm} {Q : Mm → Option Mv → Prop} (H : Wq 4 0 0 mD_endHurried 0 [iR 0, iR 77, iI y0, none] [] M (fun M' v => Wq 5 0 0 mD_proves 87 [iR 0, iI 2, iI x2, iI x3, iR 76, iI x5] (v.toList ++ []) M' Q)) : Wq 5 0 0 mD_proves 84 [iR 0, iI 2, iI x2, iI x3, iR 76, iI x5] [vI y0, vR 77, vR 0] M Q := by
  refine wq_callV (d' := 4) (pc := 84) (as := [vR 77, vI y0]) (rest := []) (lo' := [iR 0, iR 77, iI y0, none]) dD_proves_84 mO_D_endHurried lV_D_297 sh_0 (by decide) cl_10 rfl rfl rfl rfl rfl rfl ?_
  exact H

set_option maxRecDepth 20000 in
theorem B_D_proves_s2_87 {x2 x3 x5 y0 : Int} {M : Mm} {Q : Mm → Option Mv → Prop} (hS : RefOK M) (H : ((y0 ≤ x2 → Wq 1 0 0 mH_sumOf 0 [iR 26, iR 77, none, none] [] M (fun M' v => Wq 5 0 0 mD_proves 109 [iR 0, iI 2, iI x2, iI x3, iR 76, iI x5] (v.toList ++ []) M' Q)) ∧ (¬ y0 ≤ x2 → Q M (some (vI 100))))) : Wq 5 0 0 mD_proves 87 [iR 0, iI 2, iI x2, iI x3, iR 76, iI x5] [vI y0] M Q := by
  refine wq_iload_n (pc := 87) dD_proves_87 rfl rfl ?_
  refine wq_icmp_le (pc := 88) (tgt := 94) dD_proves_88 (by decide) (fun c1 => ?_) (fun c1 => ?_)
  · have H := H.1 c1
    refine wq_aload_n (pc := 94) dD_proves_94 rfl rfl ?_
    refine wq_getR (pc := 95) (z := 0) (b := 1) dD_proves_95 fO_D_12 sh_0 rfl rfl (rf_0_0 hS) ?_
    refine wq_getR (pc := 98) (z := 4) (b := 26) dD_proves_98 fO_D_102 sh_1 rfl rfl (rf_1_4 hS) ?_
    refine wq_aload (pc := 101) dD_proves_101 rfl ?_
    refine wq_getR (pc := 103) (z := 0) (b := 77) dD_proves_103 fO_D_294 sh_76 rfl rfl (rf_76_0 hS) ?_
    refine wq_callV (d' := 1) (pc := 106) (as := [vR 77]) (rest := []) (lo' := [iR 26, iR 77, none, none]) dD_proves_106 mO_H_sumOf lV_D_301 sh_26 (by decide) cl_3 rfl rfl rfl rfl rfl rfl ?_
    exact H
  · have H := H.2 c1
    refine wq_bipush (pc := 91) dD_proves_91 rfl ?_
    refine wq_ireturn (pc := 93) dD_proves_93 trivial ?_
    exact H

set_option maxRecDepth 20000 in
theorem B_D_proves_s2_109 {x2 x3 x5 y0 : Int} {M : Mm} {Q : Mm → Option Mv → Prop} (H : ((y0 ≤ x3 → Q M (some (vI (-1)))) ∧ (¬ y0 ≤ x3 → Q M (some (vI 101))))) : Wq 5 0 0 mD_proves 109 [iR 0, iI 2, iI x2, iI x3, iR 76, iI x5] [vI y0] M Q := by
  refine wq_iload_n (pc := 109) dD_proves_109 rfl rfl ?_
  refine wq_icmp_le (pc := 110) (tgt := 118) dD_proves_110 (by decide) (fun c1 => ?_) (fun c1 => ?_)
  · have H := H.1 c1
    refine wq_iconst (pc := 118) dD_proves_118 rfl ?_
    refine wq_ireturn (pc := 119) dD_proves_119 trivial ?_
    exact H
  · have H := H.2 c1
    refine wq_bipush (pc := 113) dD_proves_113 rfl ?_
    refine wq_goto (pc := 115) (tgt := 119) dD_proves_115 (by decide) ?_
    refine wq_ireturn (pc := 119) dD_proves_119 trivial ?_
    exact H
set_option maxRecDepth 20000 in
theorem B_D_proves_s3_0 {x2 x3 : Int} {M : Mm} {Q : Mm → Option Mv → Prop} (hS : RefOK M) (H : ((0 ≤ (3 : Int) ∧ (3 : Int) ≤ 3 → ((0 ≤ x2 ∧ x2 ≤ 9999 → ((0 ≤ x3 → ((¬ gI M 78 1 = 0 → Wq 2 0 0 mH_firstWrong 0 [iR 26, iR 78, none] [] M (fun M' v => Wq 5 0 0 mD_proves 64 [iR 0, iI 3, iI x2, iI x3, iR 78, none] (v.toList ++ []) M' Q)) ∧ (gI M 78 1 = 0 → Q (sI M 69 2 (wr (gI M 69 2 + 1))) (some (vI (-1000002)))))) ∧ (¬ 0 ≤ x3 → Q (sI M 69 1 (wr (gI M 69 1 + 1))) (some (vI (-1000001)))))) ∧ (¬ (0 ≤ x2 ∧ x2 ≤ 9999) → Q (sI M 69 1 (wr (gI M 69 1 + 1))) (some (vI (-1000001)))))) ∧ (¬ (0 ≤ (3 : Int) ∧ (3 : Int) ≤ 3) → Q (sI M 69 1 (wr (gI M 69 1 + 1))) (some (vI (-1000001)))))) : Wq 5 0 0 mD_proves 0 [iR 0, iI 3, iI x2, iI x3, none, none] [] M Q := by
  refine wq_iload_n (pc := 0) dD_proves_0 rfl rfl ?_
  refine wq_callS (d' := 2) (pc := 1) (as := [vI 3]) (rest := []) (lo' := [iI 3]) dD_proves_1 mO_D_isSheet lS_D_284 rfl rfl rfl rfl rfl rfl ?_
  refine sp_D_isSheet (fun c1 => ?_) (fun c1 => ?_)
  · have H := H.1 c1
    show Wq 5 0 0 mD_proves 4 [iR 0, iI 3, iI x2, iI x3, none, none] [vI 1] M _
    refine wq_if_eq (pc := 4) (tgt := 22) dD_proves_4 (by decide) (fun q => absurd q (by decide)) (fun _ => ?_)
    refine wq_iload_n (pc := 7) dD_proves_7 rfl rfl ?_
    refine wq_iconst (pc := 8) dD_proves_8 rfl ?_
    refine wq_sipush (pc := 9) dD_proves_9 rfl ?_
    refine wq_callS (d' := 1) (pc := 12) (as := [vI x2, vI 0, vI 9999]) (rest := []) (lo' := [iI x2, iI 0, iI 9999]) dD_proves_12 mO_D_within lS_D_65 rfl rfl rfl rfl rfl rfl ?_
    refine sp_D_within (fun c2 => ?_) (fun c2 => ?_)
    · have H := H.1 c2
      show Wq 5 0 0 mD_proves 15 [iR 0, iI 3, iI x2, iI x3, none, none] [vI 1] M _
      refine wq_if_eq (pc := 15) (tgt := 22) dD_proves_15 (by decide) (fun q => absurd q (by decide)) (fun _ => ?_)
      refine wq_iload_n (pc := 18) dD_proves_18 rfl rfl ?_
      refine wq_if_ge (pc := 19) (tgt := 29) dD_proves_19 (by decide) (fun c3 => ?_) (fun c3 => ?_)
      · have H := H.1 c3
        refine wq_aload_n (pc := 29) dD_proves_29 rfl rfl ?_
        refine wq_getR (pc := 30) (z := 5) (b := 68) dD_proves_30 fO_D_42 sh_0 rfl rfl (rf_0_5 hS) ?_
        refine wq_iload_n (pc := 33) dD_proves_33 rfl rfl ?_
        refine wq_aald (pc := 34) (b := 78) dD_proves_34 sh_68 (by decide) (by decide) (rf_68_3 hS) ?_
        refine wq_astore (pc := 35) (lo' := [iR 0, iI 3, iI x2, iI x3, iR 78, none]) dD_proves_35 rfl rfl ?_
        refine wq_aload (pc := 37) dD_proves_37 rfl ?_
        refine wq_getI (pc := 39) (z := 1) dD_proves_39 fO_D_287 sh_78 rfl rfl ?_
        refine wq_if_ne (pc := 42) (tgt := 52) dD_proves_42 (by decide) (fun c4 => ?_) (fun c4 => ?_)
        · have H := H.1 c4
          refine wq_aload_n (pc := 52) dD_proves_52 rfl rfl ?_
          refine wq_getR (pc := 53) (z := 0) (b := 1) dD_proves_53 fO_D_12 sh_0 rfl rfl (rf_0_0 hS) ?_
          refine wq_getR (pc := 56) (z := 4) (b := 26) dD_proves_56 fO_D_102 sh_1 rfl rfl (rf_1_4 hS) ?_
          refine wq_aload (pc := 59) dD_proves_59 rfl ?_
          refine wq_callV (d' := 2) (pc := 61) (as := [vR 78]) (rest := []) (lo' := [iR 26, iR 78, none]) dD_proves_61 mO_H_firstWrong lV_D_290 sh_26 (by decide) cl_3 rfl rfl rfl rfl rfl rfl ?_
          exact H
        · have H := H.2 c4
          refine wq_aload_n (pc := 45) dD_proves_45 rfl rfl ?_
          refine wq_ldc (pc := 46) (z := (-1000002)) dD_proves_46 kO_D_125 (by decide) ?_
          refine wq_callV (d' := 2) (pc := 48) (as := [vI (-1000002)]) (rest := []) (lo' := [iR 0, iI ((-1000002)), none]) dD_proves_48 mO_D_finding lV_D_70 sh_0 (by decide) cl_10 rfl rfl rfl rfl rfl rfl ?_
          refine sp_D_finding (k := 2) (by decide) (by decide) (by decide) hS ?_
          show Wq 5 0 0 mD_proves 51 [iR 0, iI 3, iI x2, iI x3, iR 78, none] [vI (-1000002)] (sI M 69 2 (wr (gI M 69 2 + 1))) _
          refine wq_ireturn (pc := 51) dD_proves_51 trivial ?_
          exact H
      · have H := H.2 c3
        refine wq_aload_n (pc := 22) dD_proves_22 rfl rfl ?_
        refine wq_ldc (pc := 23) (z := (-1000001)) dD_proves_23 kO_D_69 (by decide) ?_
        refine wq_callV (d' := 2) (pc := 25) (as := [vI (-1000001)]) (rest := []) (lo' := [iR 0, iI ((-1000001)), none]) dD_proves_25 mO_D_finding lV_D_70 sh_0 (by decide) cl_10 rfl rfl rfl rfl rfl rfl ?_
        refine sp_D_finding (k := 1) (by decide) (by decide) (by decide) hS ?_
        show Wq 5 0 0 mD_proves 28 [iR 0, iI 3, iI x2, iI x3, none, none] [vI (-1000001)] (sI M 69 1 (wr (gI M 69 1 + 1))) _
        refine wq_ireturn (pc := 28) dD_proves_28 trivial ?_
        exact H
    · have H := H.2 c2
      show Wq 5 0 0 mD_proves 15 [iR 0, iI 3, iI x2, iI x3, none, none] [vI 0] M _
      refine wq_if_eq (pc := 15) (tgt := 22) dD_proves_15 (by decide) (fun _ => ?_) (fun q => absurd (by decide) q)
      refine wq_aload_n (pc := 22) dD_proves_22 rfl rfl ?_
      refine wq_ldc (pc := 23) (z := (-1000001)) dD_proves_23 kO_D_69 (by decide) ?_
      refine wq_callV (d' := 2) (pc := 25) (as := [vI (-1000001)]) (rest := []) (lo' := [iR 0, iI ((-1000001)), none]) dD_proves_25 mO_D_finding lV_D_70 sh_0 (by decide) cl_10 rfl rfl rfl rfl rfl rfl ?_
      refine sp_D_finding (k := 1) (by decide) (by decide) (by decide) hS ?_
      show Wq 5 0 0 mD_proves 28 [iR 0, iI 3, iI x2, iI x3, none, none] [vI (-1000001)] (sI M 69 1 (wr (gI M 69 1 + 1))) _
      refine wq_ireturn (pc := 28) dD_proves_28 trivial ?_
      exact H
  · have H := H.2 c1
    show Wq 5 0 0 mD_proves 4 [iR 0, iI 3, iI x2, iI x3, none, none] [vI 0] M _
    refine wq_if_eq (pc := 4) (tgt := 22) dD_proves_4 (by decide) (fun _ => ?_) (fun q => absurd (by decide) q)
    refine wq_aload_n (pc := 22) dD_proves_22 rfl rfl ?_
    refine wq_ldc (pc := 23) (z := (-1000001)) dD_proves_23 kO_D_69 (by decide) ?_
    refine wq_callV (d' := 2) (pc := 25) (as := [vI (-1000001)]) (rest := []) (lo' := [iR 0, iI ((-1000001)), none]) dD_proves_25 mO_D_finding lV_D_70 sh_0 (by decide) cl_10 rfl rfl rfl rfl rfl rfl ?_
    refine sp_D_finding (k := 1) (by decide) (by decide) (by decide) hS ?_
    show Wq 5 0 0 mD_proves 28 [iR 0, iI 3, iI x2, iI x3, none, none] [vI (-1000001)] (sI M 69 1 (wr (gI M 69 1 + 1))) _
    refine wq_ireturn (pc := 28) dD_proves_28 trivial ?_
    exact H

set_option maxRecDepth 20000 in
theorem B_D_proves_s3_64 {x2 x3 y0 : Int} {M : Mm} {Q : Mm → Option Mv → Prop} (hS : RefOK M) (H : ((y0 < 0 → Wq 2 0 0 mD_knownToday 0 [iR 0] [] M (fun M' v => Wq 5 0 0 mD_proves 84 [iR 0, iI 3, iI x2, iI x3, iR 78, iI y0] (v.toList ++ [vR 79, vR 0]) M' Q)) ∧ (¬ y0 < 0 → Q M (some (vI y0))))) : Wq 5 0 0 mD_proves 64 [iR 0, iI 3, iI x2, iI x3, iR 78, none] [vI y0] M Q := by
  refine wq_istore (pc := 64) (lo' := [iR 0, iI 3, iI x2, iI x3, iR 78, iI y0]) dD_proves_64 rfl rfl ?_
  refine wq_iload (pc := 66) dD_proves_66 rfl ?_
  refine wq_if_lt (pc := 68) (tgt := 74) dD_proves_68 (by decide) (fun c1 => ?_) (fun c1 => ?_)
  · have H := H.1 c1
    refine wq_aload_n (pc := 74) dD_proves_74 rfl rfl ?_
    refine wq_aload (pc := 75) dD_proves_75 rfl ?_
    refine wq_getR (pc := 77) (z := 0) (b := 79) dD_proves_77 fO_D_294 sh_78 rfl rfl (rf_78_0 hS) ?_
    refine wq_aload_n (pc := 80) dD_proves_80 rfl rfl ?_
    refine wq_callV (d' := 2) (pc := 81) (as := []) (rest := [vR 79, vR 0]) (lo' := [iR 0]) dD_proves_81 mO_D_knownToday lV_D_272 sh_0 (by decide) cl_10 rfl rfl rfl rfl rfl rfl ?_
    exact H
  · have H := H.2 c1
    refine wq_iload (pc := 71) dD_proves_71 rfl ?_
    refine wq_ireturn (pc := 73) dD_proves_73 trivial ?_
    exact H

set_option maxRecDepth 20000 in
theorem B_D_proves_s3_84 {x2 x3 x5 y0 : Int} {M : Mm} {Q : Mm → Option Mv → Prop} (H : Wq 4 0 0 mD_endHurried 0 [iR 0, iR 79, iI y0, none] [] M (fun M' v => Wq 5 0 0 mD_proves 87 [iR 0, iI 3, iI x2, iI x3, iR 78, iI x5] (v.toList ++ []) M' Q)) : Wq 5 0 0 mD_proves 84 [iR 0, iI 3, iI x2, iI x3, iR 78, iI x5] [vI y0, vR 79, vR 0] M Q := by
  refine wq_callV (d' := 4) (pc := 84) (as := [vR 79, vI y0]) (rest := []) (lo' := [iR 0, iR 79, iI y0, none]) dD_proves_84 mO_D_endHurried lV_D_297 sh_0 (by decide) cl_10 rfl rfl rfl rfl rfl rfl ?_
  exact H

set_option maxRecDepth 20000 in
theorem B_D_proves_s3_87 {x2 x3 x5 y0 : Int} {M : Mm} {Q : Mm → Option Mv → Prop} (hS : RefOK M) (H : ((y0 ≤ x2 → Wq 1 0 0 mH_sumOf 0 [iR 26, iR 79, none, none] [] M (fun M' v => Wq 5 0 0 mD_proves 109 [iR 0, iI 3, iI x2, iI x3, iR 78, iI x5] (v.toList ++ []) M' Q)) ∧ (¬ y0 ≤ x2 → Q M (some (vI 100))))) : Wq 5 0 0 mD_proves 87 [iR 0, iI 3, iI x2, iI x3, iR 78, iI x5] [vI y0] M Q := by
  refine wq_iload_n (pc := 87) dD_proves_87 rfl rfl ?_
  refine wq_icmp_le (pc := 88) (tgt := 94) dD_proves_88 (by decide) (fun c1 => ?_) (fun c1 => ?_)
  · have H := H.1 c1
    refine wq_aload_n (pc := 94) dD_proves_94 rfl rfl ?_
    refine wq_getR (pc := 95) (z := 0) (b := 1) dD_proves_95 fO_D_12 sh_0 rfl rfl (rf_0_0 hS) ?_
    refine wq_getR (pc := 98) (z := 4) (b := 26) dD_proves_98 fO_D_102 sh_1 rfl rfl (rf_1_4 hS) ?_
    refine wq_aload (pc := 101) dD_proves_101 rfl ?_
    refine wq_getR (pc := 103) (z := 0) (b := 79) dD_proves_103 fO_D_294 sh_78 rfl rfl (rf_78_0 hS) ?_
    refine wq_callV (d' := 1) (pc := 106) (as := [vR 79]) (rest := []) (lo' := [iR 26, iR 79, none, none]) dD_proves_106 mO_H_sumOf lV_D_301 sh_26 (by decide) cl_3 rfl rfl rfl rfl rfl rfl ?_
    exact H
  · have H := H.2 c1
    refine wq_bipush (pc := 91) dD_proves_91 rfl ?_
    refine wq_ireturn (pc := 93) dD_proves_93 trivial ?_
    exact H

set_option maxRecDepth 20000 in
theorem B_D_proves_s3_109 {x2 x3 x5 y0 : Int} {M : Mm} {Q : Mm → Option Mv → Prop} (H : ((y0 ≤ x3 → Q M (some (vI (-1)))) ∧ (¬ y0 ≤ x3 → Q M (some (vI 101))))) : Wq 5 0 0 mD_proves 109 [iR 0, iI 3, iI x2, iI x3, iR 78, iI x5] [vI y0] M Q := by
  refine wq_iload_n (pc := 109) dD_proves_109 rfl rfl ?_
  refine wq_icmp_le (pc := 110) (tgt := 118) dD_proves_110 (by decide) (fun c1 => ?_) (fun c1 => ?_)
  · have H := H.1 c1
    refine wq_iconst (pc := 118) dD_proves_118 rfl ?_
    refine wq_ireturn (pc := 119) dD_proves_119 trivial ?_
    exact H
  · have H := H.2 c1
    refine wq_bipush (pc := 113) dD_proves_113 rfl ?_
    refine wq_goto (pc := 115) (tgt := 119) dD_proves_115 (by decide) ?_
    refine wq_ireturn (pc := 119) dD_proves_119 trivial ?_
    exact H
