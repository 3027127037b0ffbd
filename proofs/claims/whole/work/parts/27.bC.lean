set_option maxRecDepth 20000 in
theorem B_D_today_0 {x1 : Int} {M : Mm} {Q : Mm → Option Mv → Prop} (hS : RefOK M) (H : ((gI M 1 5 ≤ x1 ∧ x1 ≤ 900 → Q (sI M 1 5 x1) (some (vI (gI M 1 5)))) ∧ (¬ (gI M 1 5 ≤ x1 ∧ x1 ≤ 900) → Q (sI M 69 1 (wr (gI M 69 1 + 1))) (some (vI (-1000001)))))) : Wq 3 0 0 mD_today 0 [iR 0, iI x1, none] [] M Q := by
  refine wq_iload_n (pc := 0) dD_today_0 rfl rfl ?_
  refine wq_aload_n (pc := 1) dD_today_1 rfl rfl ?_
  refine wq_getR (pc := 2) (z := 0) (b := 1) dD_today_2 fO_D_12 sh_0 rfl rfl (rf_0_0 hS) ?_
  refine wq_getI (pc := 5) (z := 5) dD_today_5 fO_D_142 sh_1 rfl rfl ?_
  refine wq_sipush (pc := 8) dD_today_8 rfl ?_
  refine wq_callS (d' := 1) (pc := 11) (as := [vI x1, vI (gI M 1 5), vI 900]) (rest := []) (lo' := [iI x1, iI (gI M 1 5), iI 900]) dD_today_11 mO_D_within lS_D_65 rfl rfl rfl rfl rfl rfl ?_
  refine sp_D_within (fun c1 => ?_) (fun c1 => ?_)
  · have H := H.1 c1
    show Wq 3 0 0 mD_today 14 [iR 0, iI x1, none] [vI 1] M _
    refine wq_if_ne (pc := 14) (tgt := 24) dD_today_14 (by decide) (fun _ => ?_) (fun q => absurd q (by decide))
    refine wq_aload_n (pc := 24) dD_today_24 rfl rfl ?_
    refine wq_getR (pc := 25) (z := 0) (b := 1) dD_today_25 fO_D_12 sh_0 rfl rfl (rf_0_0 hS) ?_
    refine wq_getI (pc := 28) (z := 5) dD_today_28 fO_D_142 sh_1 rfl rfl ?_
    refine wq_istore_n (pc := 31) (lo' := [iR 0, iI x1, iI (gI M 1 5)]) dD_today_31 rfl rfl rfl ?_
    refine wq_aload_n (pc := 32) dD_today_32 rfl rfl ?_
    refine wq_getR (pc := 33) (z := 0) (b := 1) dD_today_33 fO_D_12 sh_0 rfl rfl (rf_0_0 hS) ?_
    refine wq_iload_n (pc := 36) dD_today_36 rfl rfl ?_
    refine wq_putI (pc := 37) (z := 5) dD_today_37 fW_D_142 sh_1 rfl rfl ?_
    refine wq_iload_n (pc := 40) dD_today_40 rfl rfl ?_
    refine wq_ireturn (pc := 41) dD_today_41 trivial ?_
    exact H
  · have H := H.2 c1
    show Wq 3 0 0 mD_today 14 [iR 0, iI x1, none] [vI 0] M _
    refine wq_if_ne (pc := 14) (tgt := 24) dD_today_14 (by decide) (fun q => absurd q (by decide)) (fun _ => ?_)
    refine wq_aload_n (pc := 17) dD_today_17 rfl rfl ?_
    refine wq_ldc (pc := 18) (z := (-1000001)) dD_today_18 kO_D_69 (by decide) ?_
    refine wq_callV (d' := 2) (pc := 20) (as := [vI (-1000001)]) (rest := []) (lo' := [iR 0, iI ((-1000001)), none]) dD_today_20 mO_D_finding lV_D_70 sh_0 (by decide) cl_10 rfl rfl rfl rfl rfl rfl ?_
    refine sp_D_finding (k := 1) (by decide) (by decide) (by decide) hS ?_
    show Wq 3 0 0 mD_today 23 [iR 0, iI x1, none] [vI (-1000001)] (sI M 69 1 (wr (gI M 69 1 + 1))) _
    refine wq_ireturn (pc := 23) dD_today_23 trivial ?_
    exact H
set_option maxRecDepth 20000 in
theorem B_M_today_0 {x1 : Int} {M : Mm} {Q : Mm → Option Mv → Prop} (hS : RefOK M) (H : ((gI M 81 0 ≤ x1 ∧ x1 ≤ 900 → Q (sI M 81 0 x1) (some (vI (gI M 81 0)))) ∧ (¬ (gI M 81 0 ≤ x1 ∧ x1 ≤ 900) → Q (sI M 83 1 (wr (gI M 83 1 + 1))) (some (vI (-1000001)))))) : Wq 2 0 0 mM_today 0 [iR 80, iI x1, none] [] M Q := by
  refine wq_iload_n (pc := 0) dM_today_0 rfl rfl ?_
  refine wq_i2l (pc := 1) dM_today_1 ?_
  refine wq_aload_n (pc := 2) dM_today_2 rfl rfl ?_
  refine wq_getR (pc := 3) (z := 0) (b := 81) dM_today_3 fO_M_9 sh_80 rfl rfl (rf_80_0 hS) ?_
  refine wq_iconst (pc := 6) dM_today_6 rfl ?_
  refine wq_iald (pc := 7) dM_today_7 sh_81 (by decide) (by decide) ?_
  refine wq_i2l (pc := 8) dM_today_8 ?_
  refine wq_ldc2 (pc := 9) (z := 900) dM_today_9 kO_M_119 (by decide) ?_
  refine wq_callS (d' := 1) (pc := 12) (as := [vL x1, vL (gI M 81 0), vL 900]) (rest := []) (lo' := [iL x1, none, iL (gI M 81 0), none, iL 900, none]) dM_today_12 mO_M_within lS_M_68 rfl rfl rfl rfl rfl rfl ?_
  refine sp_M_within (fun c1 => ?_) (fun c1 => ?_)
  · have H := H.1 c1
    show Wq 2 0 0 mM_today 15 [iR 80, iI x1, none] [vI 1] M _
    refine wq_if_ne (pc := 15) (tgt := 25) dM_today_15 (by decide) (fun _ => ?_) (fun q => absurd q (by decide))
    refine wq_aload_n (pc := 25) dM_today_25 rfl rfl ?_
    refine wq_getR (pc := 26) (z := 0) (b := 81) dM_today_26 fO_M_9 sh_80 rfl rfl (rf_80_0 hS) ?_
    refine wq_iconst (pc := 29) dM_today_29 rfl ?_
    refine wq_iald (pc := 30) dM_today_30 sh_81 (by decide) (by decide) ?_
    refine wq_istore_n (pc := 31) (lo' := [iR 80, iI x1, iI (gI M 81 0)]) dM_today_31 rfl rfl rfl ?_
    refine wq_aload_n (pc := 32) dM_today_32 rfl rfl ?_
    refine wq_getR (pc := 33) (z := 0) (b := 81) dM_today_33 fO_M_9 sh_80 rfl rfl (rf_80_0 hS) ?_
    refine wq_iconst (pc := 36) dM_today_36 rfl ?_
    refine wq_iload_n (pc := 37) dM_today_37 rfl rfl ?_
    refine wq_iast (pc := 38) dM_today_38 sh_81 (by decide) (by decide) (by decide) ?_
    refine wq_iload_n (pc := 39) dM_today_39 rfl rfl ?_
    refine wq_ireturn (pc := 40) dM_today_40 trivial ?_
    exact H
  · have H := H.2 c1
    show Wq 2 0 0 mM_today 15 [iR 80, iI x1, none] [vI 0] M _
    refine wq_if_ne (pc := 15) (tgt := 25) dM_today_15 (by decide) (fun q => absurd q (by decide)) (fun _ => ?_)
    refine wq_aload_n (pc := 18) dM_today_18 rfl rfl ?_
    refine wq_ldc (pc := 19) (z := (-1000001)) dM_today_19 kO_M_78 (by decide) ?_
    refine wq_callV (d' := 1) (pc := 21) (as := [vI (-1000001)]) (rest := []) (lo' := [iR 80, iI ((-1000001))]) dM_today_21 mO_M_finding lV_M_79 sh_80 (by decide) cl_11 rfl rfl rfl rfl rfl rfl ?_
    refine sp_M_finding (k := 1) (by decide) (by decide) (by decide) hS ?_
    show Wq 2 0 0 mM_today 24 [iR 80, iI x1, none] [vI (-1000001)] (sI M 83 1 (wr (gI M 83 1 + 1))) _
    refine wq_ireturn (pc := 24) dM_today_24 trivial ?_
    exact H
set_option maxRecDepth 20000 in
theorem B_D_calm_0 {M : Mm} {Q : Mm → Option Mv → Prop} (hS : RefOK M) (H : Q (sI M 26 3 0) (some (vI (gI M 26 3)))) : Wq 1 0 0 mD_calm 0 [iR 0, none] [] M Q := by
  refine wq_aload_n (pc := 0) dD_calm_0 rfl rfl ?_
  refine wq_getR (pc := 1) (z := 0) (b := 1) dD_calm_1 fO_D_12 sh_0 rfl rfl (rf_0_0 hS) ?_
  refine wq_getR (pc := 4) (z := 4) (b := 26) dD_calm_4 fO_D_102 sh_1 rfl rfl (rf_1_4 hS) ?_
  refine wq_getI (pc := 7) (z := 3) dD_calm_7 fO_D_278 sh_26 rfl rfl ?_
  refine wq_istore_n (pc := 10) (lo' := [iR 0, iI (gI M 26 3)]) dD_calm_10 rfl rfl rfl ?_
  refine wq_aload_n (pc := 11) dD_calm_11 rfl rfl ?_
  refine wq_getR (pc := 12) (z := 0) (b := 1) dD_calm_12 fO_D_12 sh_0 rfl rfl (rf_0_0 hS) ?_
  refine wq_getR (pc := 15) (z := 4) (b := 26) dD_calm_15 fO_D_102 sh_1 rfl rfl (rf_1_4 hS) ?_
  refine wq_iconst (pc := 18) dD_calm_18 rfl ?_
  refine wq_putI (pc := 19) (z := 3) dD_calm_19 fW_D_278 sh_26 rfl rfl ?_
  refine wq_iload_n (pc := 22) dD_calm_22 rfl rfl ?_
  refine wq_ireturn (pc := 23) dD_calm_23 trivial ?_
  exact H
set_option maxRecDepth 20000 in
theorem B_M_calm_0 {M : Mm} {Q : Mm → Option Mv → Prop} (hS : RefOK M) (H : Q (sI M 81 6 0) (some (vI (gI M 81 6)))) : Wq 1 0 0 mM_calm 0 [iR 80, none] [] M Q := by
  refine wq_aload_n (pc := 0) dM_calm_0 rfl rfl ?_
  refine wq_getR (pc := 1) (z := 0) (b := 81) dM_calm_1 fO_M_9 sh_80 rfl rfl (rf_80_0 hS) ?_
  refine wq_bipush (pc := 4) dM_calm_4 rfl ?_
  refine wq_iald (pc := 6) dM_calm_6 sh_81 (by decide) (by decide) ?_
  refine wq_istore_n (pc := 7) (lo' := [iR 80, iI (gI M 81 6)]) dM_calm_7 rfl rfl rfl ?_
  refine wq_aload_n (pc := 8) dM_calm_8 rfl rfl ?_
  refine wq_getR (pc := 9) (z := 0) (b := 81) dM_calm_9 fO_M_9 sh_80 rfl rfl (rf_80_0 hS) ?_
  refine wq_bipush (pc := 12) dM_calm_12 rfl ?_
  refine wq_iconst (pc := 14) dM_calm_14 rfl ?_
  refine wq_iast (pc := 15) dM_calm_15 sh_81 (by decide) (by decide) (by decide) ?_
  refine wq_iload_n (pc := 16) dM_calm_16 rfl rfl ?_
  refine wq_ireturn (pc := 17) dM_calm_17 trivial ?_
  exact H
set_option maxRecDepth 20000 in
theorem B_D_hurry_0 {x1 x2 x3 : Int} {M : Mm} {Q : Mm → Option Mv → Prop} (hS : RefOK M) (H : ((1 ≤ x2 ∧ x2 ≤ 2 → ((1 ≤ x3 ∧ x3 ≤ 999 → ((0 ≤ x1 ∧ x1 < gI M 5 6 → ((0 ≤ x1 ∧ x1 < 16) ∧ ((¬ gI M 6 x1 = 5 → Wq 1 0 0 mH_mostOf 0 [iR 26, iI x1, none] [] M (fun M' v => Wq 3 0 0 mD_hurry 87 [iR 0, iI x1, iI x2, iI x3, iI 1] (v.toList ++ []) M' Q)) ∧ (gI M 6 x1 = 5 → Q (sI M 69 5 (wr (gI M 69 5 + 1))) (some (vI (-1000005))))))) ∧ (¬ (0 ≤ x1 ∧ x1 < gI M 5 6) → Q (sI M 69 1 (wr (gI M 69 1 + 1))) (some (vI (-1000001)))))) ∧ (¬ (1 ≤ x3 ∧ x3 ≤ 999) → ((0 ≤ x1 ∧ x1 < gI M 5 6 → Q (sI M 69 1 (wr (gI M 69 1 + 1))) (some (vI (-1000001)))) ∧ (¬ (0 ≤ x1 ∧ x1 < gI M 5 6) → Q (sI M 69 1 (wr (gI M 69 1 + 1))) (some (vI (-1000001)))))))) ∧ (¬ (1 ≤ x2 ∧ x2 ≤ 2) → ((0 ≤ x1 ∧ x1 < gI M 5 6 → Q (sI M 69 1 (wr (gI M 69 1 + 1))) (some (vI (-1000001)))) ∧ (¬ (0 ≤ x1 ∧ x1 < gI M 5 6) → Q (sI M 69 1 (wr (gI M 69 1 + 1))) (some (vI (-1000001)))))))) : Wq 3 0 0 mD_hurry 0 [iR 0, iI x1, iI x2, iI x3, none] [] M Q := by
  refine wq_iload_n (pc := 0) dD_hurry_0 rfl rfl ?_
  refine wq_iconst (pc := 1) dD_hurry_1 rfl ?_
  refine wq_iconst (pc := 2) dD_hurry_2 rfl ?_
  refine wq_callS (d' := 1) (pc := 3) (as := [vI x2, vI 1, vI 2]) (rest := []) (lo' := [iI x2, iI 1, iI 2]) dD_hurry_3 mO_D_within lS_D_65 rfl rfl rfl rfl rfl rfl ?_
  refine sp_D_within (fun c1 => ?_) (fun c1 => ?_)
  · have H := H.1 c1
    show Wq 3 0 0 mD_hurry 6 [iR 0, iI x1, iI x2, iI x3, none] [vI 1] M _
    refine wq_if_eq (pc := 6) (tgt := 24) dD_hurry_6 (by decide) (fun q => absurd q (by decide)) (fun _ => ?_)
    refine wq_iload_n (pc := 9) dD_hurry_9 rfl rfl ?_
    refine wq_iconst (pc := 10) dD_hurry_10 rfl ?_
    refine wq_sipush (pc := 11) dD_hurry_11 rfl ?_
    refine wq_callS (d' := 1) (pc := 14) (as := [vI x3, vI 1, vI 999]) (rest := []) (lo' := [iI x3, iI 1, iI 999]) dD_hurry_14 mO_D_within lS_D_65 rfl rfl rfl rfl rfl rfl ?_
    refine sp_D_within (fun c2 => ?_) (fun c2 => ?_)
    · have H := H.1 c2
      show Wq 3 0 0 mD_hurry 17 [iR 0, iI x1, iI x2, iI x3, none] [vI 1] M _
      refine wq_if_eq (pc := 17) (tgt := 24) dD_hurry_17 (by decide) (fun q => absurd q (by decide)) (fun _ => ?_)
      refine wq_iconst (pc := 20) dD_hurry_20 rfl ?_
      refine wq_goto (pc := 21) (tgt := 25) dD_hurry_21 (by decide) ?_
      refine wq_istore (pc := 25) (lo' := [iR 0, iI x1, iI x2, iI x3, iI 1]) dD_hurry_25 rfl rfl ?_
      refine wq_aload_n (pc := 27) dD_hurry_27 rfl rfl ?_
      refine wq_getR (pc := 28) (z := 0) (b := 1) dD_hurry_28 fO_D_12 sh_0 rfl rfl (rf_0_0 hS) ?_
      refine wq_getR (pc := 31) (z := 1) (b := 5) dD_hurry_31 fO_D_74 sh_1 rfl rfl (rf_1_1 hS) ?_
      refine wq_iload_n (pc := 34) dD_hurry_34 rfl rfl ?_
      refine wq_callV (d' := 1) (pc := 35) (as := [vI x1]) (rest := []) (lo' := [iR 5, iI x1]) dD_hurry_35 mO_W_has lV_D_88 sh_5 (by decide) cl_9 rfl rfl rfl rfl rfl rfl ?_
      refine sp_W_has (fun c3 => ?_) (fun c3 => ?_)
      · have H := H.1 c3
        show Wq 3 0 0 mD_hurry 38 [iR 0, iI x1, iI x2, iI x3, iI 1] [vI 1] M _
        obtain ⟨s4, H⟩ := H
        refine wq_if_eq (pc := 38) (tgt := 46) dD_hurry_38 (by decide) (fun q => absurd q (by decide)) (fun _ => ?_)
        refine wq_iload (pc := 41) dD_hurry_41 rfl ?_
        refine wq_if_ne (pc := 43) (tgt := 53) dD_hurry_43 (by decide) (fun _ => ?_) (fun q => absurd q (by decide))
        refine wq_aload_n (pc := 53) dD_hurry_53 rfl rfl ?_
        refine wq_getR (pc := 54) (z := 0) (b := 1) dD_hurry_54 fO_D_12 sh_0 rfl rfl (rf_0_0 hS) ?_
        refine wq_getR (pc := 57) (z := 1) (b := 5) dD_hurry_57 fO_D_74 sh_1 rfl rfl (rf_1_1 hS) ?_
        refine wq_getR (pc := 60) (z := 0) (b := 6) dD_hurry_60 fO_D_91 sh_5 rfl rfl (rf_5_0 hS) ?_
        refine wq_iload_n (pc := 63) dD_hurry_63 rfl rfl ?_
        refine wq_iald (pc := 64) dD_hurry_64 sh_6 s4.1 s4.2 ?_
        refine wq_iconst (pc := 65) dD_hurry_65 rfl ?_
        refine wq_icmp_ne (pc := 66) (tgt := 76) dD_hurry_66 (by decide) (fun c5 => ?_) (fun c5 => ?_)
        · have H := H.1 c5
          refine wq_aload_n (pc := 76) dD_hurry_76 rfl rfl ?_
          refine wq_getR (pc := 77) (z := 0) (b := 1) dD_hurry_77 fO_D_12 sh_0 rfl rfl (rf_0_0 hS) ?_
          refine wq_getR (pc := 80) (z := 4) (b := 26) dD_hurry_80 fO_D_102 sh_1 rfl rfl (rf_1_4 hS) ?_
          refine wq_iload_n (pc := 83) dD_hurry_83 rfl rfl ?_
          refine wq_callV (d' := 1) (pc := 84) (as := [vI x1]) (rest := []) (lo' := [iR 26, iI x1, none]) dD_hurry_84 mO_H_mostOf lV_D_106 sh_26 (by decide) cl_3 rfl rfl rfl rfl rfl rfl ?_
          exact H
        · have H := H.2 c5
          refine wq_aload_n (pc := 69) dD_hurry_69 rfl rfl ?_
          refine wq_ldc (pc := 70) (z := (-1000005)) dD_hurry_70 kO_D_98 (by decide) ?_
          refine wq_callV (d' := 2) (pc := 72) (as := [vI (-1000005)]) (rest := []) (lo' := [iR 0, iI ((-1000005)), none]) dD_hurry_72 mO_D_finding lV_D_70 sh_0 (by decide) cl_10 rfl rfl rfl rfl rfl rfl ?_
          refine sp_D_finding (k := 5) (by decide) (by decide) (by decide) hS ?_
          show Wq 3 0 0 mD_hurry 75 [iR 0, iI x1, iI x2, iI x3, iI 1] [vI (-1000005)] (sI M 69 5 (wr (gI M 69 5 + 1))) _
          refine wq_ireturn (pc := 75) dD_hurry_75 trivial ?_
          exact H
      · have H := H.2 c3
        show Wq 3 0 0 mD_hurry 38 [iR 0, iI x1, iI x2, iI x3, iI 1] [vI 0] M _
        refine wq_if_eq (pc := 38) (tgt := 46) dD_hurry_38 (by decide) (fun _ => ?_) (fun q => absurd (by decide) q)
        refine wq_aload_n (pc := 46) dD_hurry_46 rfl rfl ?_
        refine wq_ldc (pc := 47) (z := (-1000001)) dD_hurry_47 kO_D_69 (by decide) ?_
        refine wq_callV (d' := 2) (pc := 49) (as := [vI (-1000001)]) (rest := []) (lo' := [iR 0, iI ((-1000001)), none]) dD_hurry_49 mO_D_finding lV_D_70 sh_0 (by decide) cl_10 rfl rfl rfl rfl rfl rfl ?_
        refine sp_D_finding (k := 1) (by decide) (by decide) (by decide) hS ?_
        show Wq 3 0 0 mD_hurry 52 [iR 0, iI x1, iI x2, iI x3, iI 1] [vI (-1000001)] (sI M 69 1 (wr (gI M 69 1 + 1))) _
        refine wq_ireturn (pc := 52) dD_hurry_52 trivial ?_
        exact H
    · have H := H.2 c2
      show Wq 3 0 0 mD_hurry 17 [iR 0, iI x1, iI x2, iI x3, none] [vI 0] M _
      refine wq_if_eq (pc := 17) (tgt := 24) dD_hurry_17 (by decide) (fun _ => ?_) (fun q => absurd (by decide) q)
      refine wq_iconst (pc := 24) dD_hurry_24 rfl ?_
      refine wq_istore (pc := 25) (lo' := [iR 0, iI x1, iI x2, iI x3, iI 0]) dD_hurry_25 rfl rfl ?_
      refine wq_aload_n (pc := 27) dD_hurry_27 rfl rfl ?_
      refine wq_getR (pc := 28) (z := 0) (b := 1) dD_hurry_28 fO_D_12 sh_0 rfl rfl (rf_0_0 hS) ?_
      refine wq_getR (pc := 31) (z := 1) (b := 5) dD_hurry_31 fO_D_74 sh_1 rfl rfl (rf_1_1 hS) ?_
      refine wq_iload_n (pc := 34) dD_hurry_34 rfl rfl ?_
      refine wq_callV (d' := 1) (pc := 35) (as := [vI x1]) (rest := []) (lo' := [iR 5, iI x1]) dD_hurry_35 mO_W_has lV_D_88 sh_5 (by decide) cl_9 rfl rfl rfl rfl rfl rfl ?_
      refine sp_W_has (fun c6 => ?_) (fun c6 => ?_)
      · have H := H.1 c6
        show Wq 3 0 0 mD_hurry 38 [iR 0, iI x1, iI x2, iI x3, iI 0] [vI 1] M _
        refine wq_if_eq (pc := 38) (tgt := 46) dD_hurry_38 (by decide) (fun q => absurd q (by decide)) (fun _ => ?_)
        refine wq_iload (pc := 41) dD_hurry_41 rfl ?_
        refine wq_if_ne (pc := 43) (tgt := 53) dD_hurry_43 (by decide) (fun q => absurd q (by decide)) (fun _ => ?_)
        refine wq_aload_n (pc := 46) dD_hurry_46 rfl rfl ?_
        refine wq_ldc (pc := 47) (z := (-1000001)) dD_hurry_47 kO_D_69 (by decide) ?_
        refine wq_callV (d' := 2) (pc := 49) (as := [vI (-1000001)]) (rest := []) (lo' := [iR 0, iI ((-1000001)), none]) dD_hurry_49 mO_D_finding lV_D_70 sh_0 (by decide) cl_10 rfl rfl rfl rfl rfl rfl ?_
        refine sp_D_finding (k := 1) (by decide) (by decide) (by decide) hS ?_
        show Wq 3 0 0 mD_hurry 52 [iR 0, iI x1, iI x2, iI x3, iI 0] [vI (-1000001)] (sI M 69 1 (wr (gI M 69 1 + 1))) _
        refine wq_ireturn (pc := 52) dD_hurry_52 trivial ?_
        exact H
      · have H := H.2 c6
        show Wq 3 0 0 mD_hurry 38 [iR 0, iI x1, iI x2, iI x3, iI 0] [vI 0] M _
        refine wq_if_eq (pc := 38) (tgt := 46) dD_hurry_38 (by decide) (fun _ => ?_) (fun q => absurd (by decide) q)
        refine wq_aload_n (pc := 46) dD_hurry_46 rfl rfl ?_
        refine wq_ldc (pc := 47) (z := (-1000001)) dD_hurry_47 kO_D_69 (by decide) ?_
        refine wq_callV (d' := 2) (pc := 49) (as := [vI (-1000001)]) (rest := []) (lo' := [iR 0, iI ((-1000001)), none]) dD_hurry_49 mO_D_finding lV_D_70 sh_0 (by decide) cl_10 rfl rfl rfl rfl rfl rfl ?_
        refine sp_D_finding (k := 1) (by decide) (by decide) (by decide) hS ?_
        show Wq 3 0 0 mD_hurry 52 [iR 0, iI x1, iI x2, iI x3, iI 0] [vI (-1000001)] (sI M 69 1 (wr (gI M 69 1 + 1))) _
        refine wq_ireturn (pc := 52) dD_hurry_52 trivial ?_
        exact H
  · have H := H.2 c1
    show Wq 3 0 0 mD_hurry 6 [iR 0, iI x1, iI x2, iI x3, none] [vI 0] M _
    refine wq_if_eq (pc := 6) (tgt := 24) dD_hurry_6 (by decide) (fun _ => ?_) (fun q => absurd (by decide) q)
    refine wq_iconst (pc := 24) dD_hurry_24 rfl ?_
    refine wq_istore (pc := 25) (lo' := [iR 0, iI x1, iI x2, iI x3, iI 0]) dD_hurry_25 rfl rfl ?_
    refine wq_aload_n (pc := 27) dD_hurry_27 rfl rfl ?_
    refine wq_getR (pc := 28) (z := 0) (b := 1) dD_hurry_28 fO_D_12 sh_0 rfl rfl (rf_0_0 hS) ?_
    refine wq_getR (pc := 31) (z := 1) (b := 5) dD_hurry_31 fO_D_74 sh_1 rfl rfl (rf_1_1 hS) ?_
    refine wq_iload_n (pc := 34) dD_hurry_34 rfl rfl ?_
    refine wq_callV (d' := 1) (pc := 35) (as := [vI x1]) (rest := []) (lo' := [iR 5, iI x1]) dD_hurry_35 mO_W_has lV_D_88 sh_5 (by decide) cl_9 rfl rfl rfl rfl rfl rfl ?_
    refine sp_W_has (fun c7 => ?_) (fun c7 => ?_)
    · have H := H.1 c7
      show Wq 3 0 0 mD_hurry 38 [iR 0, iI x1, iI x2, iI x3, iI 0] [vI 1] M _
      refine wq_if_eq (pc := 38) (tgt := 46) dD_hurry_38 (by decide) (fun q => absurd q (by decide)) (fun _ => ?_)
      refine wq_iload (pc := 41) dD_hurry_41 rfl ?_
      refine wq_if_ne (pc := 43) (tgt := 53) dD_hurry_43 (by decide) (fun q => absurd q (by decide)) (fun _ => ?_)
      refine wq_aload_n (pc := 46) dD_hurry_46 rfl rfl ?_
      refine wq_ldc (pc := 47) (z := (-1000001)) dD_hurry_47 kO_D_69 (by decide) ?_
      refine wq_callV (d' := 2) (pc := 49) (as := [vI (-1000001)]) (rest := []) (lo' := [iR 0, iI ((-1000001)), none]) dD_hurry_49 mO_D_finding lV_D_70 sh_0 (by decide) cl_10 rfl rfl rfl rfl rfl rfl ?_
      refine sp_D_finding (k := 1) (by decide) (by decide) (by decide) hS ?_
      show Wq 3 0 0 mD_hurry 52 [iR 0, iI x1, iI x2, iI x3, iI 0] [vI (-1000001)] (sI M 69 1 (wr (gI M 69 1 + 1))) _
      refine wq_ireturn (pc := 52) dD_hurry_52 trivial ?_
      exact H
    · have H := H.2 c7
      show Wq 3 0 0 mD_hurry 38 [iR 0, iI x1, iI x2, iI x3, iI 0] [vI 0] M _
      refine wq_if_eq (pc := 38) (tgt := 46) dD_hurry_38 (by decide) (fun _ => ?_) (fun q => absurd (by decide) q)
      refine wq_aload_n (pc := 46) dD_hurry_46 rfl rfl ?_
      refine wq_ldc (pc := 47) (z := (-1000001)) dD_hurry_47 kO_D_69 (by decide) ?_
      refine wq_callV (d' := 2) (pc := 49) (as := [vI (-1000001)]) (rest := []) (lo' := [iR 0, iI ((-1000001)), none]) dD_hurry_49 mO_D_finding lV_D_70 sh_0 (by decide) cl_10 rfl rfl rfl rfl rfl rfl ?_
      refine sp_D_finding (k := 1) (by decide) (by decide) (by decide) hS ?_
      show Wq 3 0 0 mD_hurry 52 [iR 0, iI x1, iI x2, iI x3, iI 0] [vI (-1000001)] (sI M 69 1 (wr (gI M 69 1 + 1))) _
      refine wq_ireturn (pc := 52) dD_hurry_52 trivial ?_
      exact H

set_option maxRecDepth 20000 in
theorem B_D_hurry_87 {x1 x2 x3 x4 y0 : Int} {M : Mm} {Q : Mm → Option Mv → Prop} (hS : RefOK M) (H : ((0 < y0 → Q (sI M 69 3 (wr (gI M 69 3 + 1))) (some (vI (-1000003)))) ∧ (¬ 0 < y0 → ((0 ≤ x1 ∧ x1 < 16) ∧ ((x2 < gI M 7 x1 → ((gI M 26 3 < 5 → Wq 1 0 0 mH_add 0 [iR 26, iI x1, iI x2, iI x3] [] M (fun M' v => Wq 3 0 0 mD_hurry 147 [iR 0, iI x1, iI x2, iI x3, iI x4] (v.toList ++ []) M' Q)) ∧ (¬ gI M 26 3 < 5 → Q (sI M 69 4 (wr (gI M 69 4 + 1))) (some (vI (-1000004)))))) ∧ (¬ x2 < gI M 7 x1 → Q (sI M 69 3 (wr (gI M 69 3 + 1))) (some (vI (-1000003))))))))) : Wq 3 0 0 mD_hurry 87 [iR 0, iI x1, iI x2, iI x3, iI x4] [vI y0] M Q := by
  refine wq_if_gt (pc := 87) (tgt := 106) dD_hurry_87 (by decide) (fun c1 => ?_) (fun c1 => ?_)
  · have H := H.1 c1
    refine wq_aload_n (pc := 106) dD_hurry_106 rfl rfl ?_
    refine wq_ldc (pc := 107) (z := (-1000003)) dD_hurry_107 kO_D_111 (by decide) ?_
    refine wq_callV (d' := 2) (pc := 109) (as := [vI (-1000003)]) (rest := []) (lo' := [iR 0, iI ((-1000003)), none]) dD_hurry_109 mO_D_finding lV_D_70 sh_0 (by decide) cl_10 rfl rfl rfl rfl rfl rfl ?_
    refine sp_D_finding (k := 3) (by decide) (by decide) (by decide) hS ?_
    show Wq 3 0 0 mD_hurry 112 [iR 0, iI x1, iI x2, iI x3, iI x4] [vI (-1000003)] (sI M 69 3 (wr (gI M 69 3 + 1))) _
    refine wq_ireturn (pc := 112) dD_hurry_112 trivial ?_
    exact H
  · have H := H.2 c1
    obtain ⟨s2, H⟩ := H
    refine wq_aload_n (pc := 90) dD_hurry_90 rfl rfl ?_
    refine wq_getR (pc := 91) (z := 0) (b := 1) dD_hurry_91 fO_D_12 sh_0 rfl rfl (rf_0_0 hS) ?_
    refine wq_getR (pc := 94) (z := 1) (b := 5) dD_hurry_94 fO_D_74 sh_1 rfl rfl (rf_1_1 hS) ?_
    refine wq_getR (pc := 97) (z := 1) (b := 7) dD_hurry_97 fO_D_99 sh_5 rfl rfl (rf_5_1 hS) ?_
    refine wq_iload_n (pc := 100) dD_hurry_100 rfl rfl ?_
    refine wq_iald (pc := 101) dD_hurry_101 sh_7 s2.1 s2.2 ?_
    refine wq_iload_n (pc := 102) dD_hurry_102 rfl rfl ?_
    refine wq_icmp_gt (pc := 103) (tgt := 113) dD_hurry_103 (by decide) (fun c3 => ?_) (fun c3 => ?_)
    · have H := H.1 c3
      refine wq_aload_n (pc := 113) dD_hurry_113 rfl rfl ?_
      refine wq_getR (pc := 114) (z := 0) (b := 1) dD_hurry_114 fO_D_12 sh_0 rfl rfl (rf_0_0 hS) ?_
      refine wq_getR (pc := 117) (z := 4) (b := 26) dD_hurry_117 fO_D_102 sh_1 rfl rfl (rf_1_4 hS) ?_
      refine wq_getI (pc := 120) (z := 3) dD_hurry_120 fO_D_278 sh_26 rfl rfl ?_
      refine wq_iconst (pc := 123) dD_hurry_123 rfl ?_
      refine wq_icmp_lt (pc := 124) (tgt := 134) dD_hurry_124 (by decide) (fun c4 => ?_) (fun c4 => ?_)
      · have H := H.1 c4
        refine wq_aload_n (pc := 134) dD_hurry_134 rfl rfl ?_
        refine wq_getR (pc := 135) (z := 0) (b := 1) dD_hurry_135 fO_D_12 sh_0 rfl rfl (rf_0_0 hS) ?_
        refine wq_getR (pc := 138) (z := 4) (b := 26) dD_hurry_138 fO_D_102 sh_1 rfl rfl (rf_1_4 hS) ?_
        refine wq_iload_n (pc := 141) dD_hurry_141 rfl rfl ?_
        refine wq_iload_n (pc := 142) dD_hurry_142 rfl rfl ?_
        refine wq_iload_n (pc := 143) dD_hurry_143 rfl rfl ?_
        refine wq_callV (d' := 1) (pc := 144) (as := [vI x1, vI x2, vI x3]) (rest := []) (lo' := [iR 26, iI x1, iI x2, iI x3]) dD_hurry_144 mO_H_add lV_D_279 sh_26 (by decide) cl_3 rfl rfl rfl rfl rfl rfl ?_
        exact H
      · have H := H.2 c4
        refine wq_aload_n (pc := 127) dD_hurry_127 rfl rfl ?_
        refine wq_ldc (pc := 128) (z := (-1000004)) dD_hurry_128 kO_D_83 (by decide) ?_
        refine wq_callV (d' := 2) (pc := 130) (as := [vI (-1000004)]) (rest := []) (lo' := [iR 0, iI ((-1000004)), none]) dD_hurry_130 mO_D_finding lV_D_70 sh_0 (by decide) cl_10 rfl rfl rfl rfl rfl rfl ?_
        refine sp_D_finding (k := 4) (by decide) (by decide) (by decide) hS ?_
        show Wq 3 0 0 mD_hurry 133 [iR 0, iI x1, iI x2, iI x3, iI x4] [vI (-1000004)] (sI M 69 4 (wr (gI M 69 4 + 1))) _
        refine wq_ireturn (pc := 133) dD_hurry_133 trivial ?_
        exact H
    · have H := H.2 c3
      refine wq_aload_n (pc := 106) dD_hurry_106 rfl rfl ?_
      refine wq_ldc (pc := 107) (z := (-1000003)) dD_hurry_107 kO_D_111 (by decide) ?_
      refine wq_callV (d' := 2) (pc := 109) (as := [vI (-1000003)]) (rest := []) (lo' := [iR 0, iI ((-1000003)), none]) dD_hurry_109 mO_D_finding lV_D_70 sh_0 (by decide) cl_10 rfl rfl rfl rfl rfl rfl ?_
      refine sp_D_finding (k := 3) (by decide) (by decide) (by decide) hS ?_
      show Wq 3 0 0 mD_hurry 112 [iR 0, iI x1, iI x2, iI x3, iI x4] [vI (-1000003)] (sI M 69 3 (wr (gI M 69 3 + 1))) _
      refine wq_ireturn (pc := 112) dD_hurry_112 trivial ?_
      exact H

set_option maxRecDepth 20000 in
theorem B_D_hurry_147 {x1 x2 x3 x4 y0 : Int} {M : Mm} {Q : Mm → Option Mv → Prop} (H : Q M (some (vI y0))) : Wq 3 0 0 mD_hurry 147 [iR 0, iI x1, iI x2, iI x3, iI x4] [vI y0] M Q := by
  refine wq_ireturn (pc := 147) dD_hurry_147 trivial ?_
  exact H
set_option maxRecDepth 20000 in
theorem B_M_hurry_0 {x1 x2 x3 : Int} {M : Mm} {Q : Mm → Option Mv → Prop} (hS : RefOK M) (H : (0 ≤ gI M 81 2 ∧ ((0 ≤ x1 ∧ x1 < gI M 81 2 → ((1 ≤ x2 ∧ x2 ≤ 2 → ((1 ≤ x3 ∧ x3 ≤ 999 → ((0 ≤ 10 + 3 * x1 ∧ 10 + 3 * x1 < 1993) ∧ ((¬ gI M 81 (10 + 3 * x1) = 5 → Wq 1 0 0 mM_hurried 0 [iR 80, iI x1, none, none] [] M (fun M' v => Wq 3 0 0 mM_hurry 61 [iR 80, iI x1, iI x2, iI x3, none] (v.toList ++ []) M' Q)) ∧ (gI M 81 (10 + 3 * x1) = 5 → Q (sI M 83 5 (wr (gI M 83 5 + 1))) (some (vI (-1000005))))))) ∧ (¬ (1 ≤ x3 ∧ x3 ≤ 999) → Q (sI M 83 1 (wr (gI M 83 1 + 1))) (some (vI (-1000001)))))) ∧ (¬ (1 ≤ x2 ∧ x2 ≤ 2) → Q (sI M 83 1 (wr (gI M 83 1 + 1))) (some (vI (-1000001)))))) ∧ (¬ (0 ≤ x1 ∧ x1 < gI M 81 2) → Q (sI M 83 1 (wr (gI M 83 1 + 1))) (some (vI (-1000001))))))) : Wq 3 0 0 mM_hurry 0 [iR 80, iI x1, iI x2, iI x3, none] [] M Q := by
  obtain ⟨s1, H⟩ := H
  refine wq_aload_n (pc := 0) dM_hurry_0 rfl rfl ?_
  refine wq_iload_n (pc := 1) dM_hurry_1 rfl rfl ?_
  refine wq_iconst (pc := 2) dM_hurry_2 rfl ?_
  refine wq_callV (d' := 2) (pc := 3) (as := [vI x1, vI 2]) (rest := []) (lo' := [iR 80, iI x1, iI 2]) dM_hurry_3 mO_M_is lV_M_84 sh_80 (by decide) cl_11 rfl rfl rfl rfl rfl rfl ?_
  refine sp_M_is (c := 2) (by decide) hS s1 (fun c2 => ?_) (fun c2 => ?_)
  · have H := H.1 c2
    show Wq 3 0 0 mM_hurry 6 [iR 80, iI x1, iI x2, iI x3, none] [vI 1] M _
    refine wq_if_eq (pc := 6) (tgt := 33) dM_hurry_6 (by decide) (fun q => absurd q (by decide)) (fun _ => ?_)
    refine wq_iload_n (pc := 9) dM_hurry_9 rfl rfl ?_
    refine wq_i2l (pc := 10) dM_hurry_10 ?_
    refine wq_lconst (pc := 11) (x := 1) dM_hurry_11 rfl rfl ?_
    refine wq_ldc2 (pc := 12) (z := 2) dM_hurry_12 kO_M_171 (by decide) ?_
    refine wq_callS (d' := 1) (pc := 15) (as := [vL x2, vL 1, vL 2]) (rest := []) (lo' := [iL x2, none, iL 1, none, iL 2, none]) dM_hurry_15 mO_M_within lS_M_68 rfl rfl rfl rfl rfl rfl ?_
    refine sp_M_within (fun c3 => ?_) (fun c3 => ?_)
    · have H := H.1 c3
      show Wq 3 0 0 mM_hurry 18 [iR 80, iI x1, iI x2, iI x3, none] [vI 1] M _
      refine wq_if_eq (pc := 18) (tgt := 33) dM_hurry_18 (by decide) (fun q => absurd q (by decide)) (fun _ => ?_)
      refine wq_iload_n (pc := 21) dM_hurry_21 rfl rfl ?_
      refine wq_i2l (pc := 22) dM_hurry_22 ?_
      refine wq_lconst (pc := 23) (x := 1) dM_hurry_23 rfl rfl ?_
      refine wq_ldc2 (pc := 24) (z := 999) dM_hurry_24 kO_M_270 (by decide) ?_
      refine wq_callS (d' := 1) (pc := 27) (as := [vL x3, vL 1, vL 999]) (rest := []) (lo' := [iL x3, none, iL 1, none, iL 999, none]) dM_hurry_27 mO_M_within lS_M_68 rfl rfl rfl rfl rfl rfl ?_
      refine sp_M_within (fun c4 => ?_) (fun c4 => ?_)
      · have H := H.1 c4
        show Wq 3 0 0 mM_hurry 30 [iR 80, iI x1, iI x2, iI x3, none] [vI 1] M _
        obtain ⟨s5, H⟩ := H
        refine wq_if_ne (pc := 30) (tgt := 40) dM_hurry_30 (by decide) (fun _ => ?_) (fun q => absurd q (by decide))
        refine wq_aload_n (pc := 40) dM_hurry_40 rfl rfl ?_
        refine wq_iload_n (pc := 41) dM_hurry_41 rfl rfl ?_
        refine wq_callV (d' := 1) (pc := 42) (as := [vI x1]) (rest := []) (lo' := [iR 80, iI x1]) dM_hurry_42 mO_M_kindOf lV_M_88 sh_80 (by decide) cl_11 rfl rfl rfl rfl rfl rfl ?_
        refine sp_M_kindOf hS s5 ?_
        show Wq 3 0 0 mM_hurry 45 [iR 80, iI x1, iI x2, iI x3, none] [vI (gI M 81 (10 + 3 * x1))] M _
        refine wq_iconst (pc := 45) dM_hurry_45 rfl ?_
        refine wq_icmp_ne (pc := 46) (tgt := 56) dM_hurry_46 (by decide) (fun c6 => ?_) (fun c6 => ?_)
        · have H := H.1 c6
          refine wq_aload_n (pc := 56) dM_hurry_56 rfl rfl ?_
          refine wq_iload_n (pc := 57) dM_hurry_57 rfl rfl ?_
          refine wq_callV (d' := 1) (pc := 58) (as := [vI x1]) (rest := []) (lo' := [iR 80, iI x1, none, none]) dM_hurry_58 mO_M_hurried lV_M_98 sh_80 (by decide) cl_11 rfl rfl rfl rfl rfl rfl ?_
          exact H
        · have H := H.2 c6
          refine wq_aload_n (pc := 49) dM_hurry_49 rfl rfl ?_
          refine wq_ldc (pc := 50) (z := (-1000005)) dM_hurry_50 kO_M_94 (by decide) ?_
          refine wq_callV (d' := 1) (pc := 52) (as := [vI (-1000005)]) (rest := []) (lo' := [iR 80, iI ((-1000005))]) dM_hurry_52 mO_M_finding lV_M_79 sh_80 (by decide) cl_11 rfl rfl rfl rfl rfl rfl ?_
          refine sp_M_finding (k := 5) (by decide) (by decide) (by decide) hS ?_
          show Wq 3 0 0 mM_hurry 55 [iR 80, iI x1, iI x2, iI x3, none] [vI (-1000005)] (sI M 83 5 (wr (gI M 83 5 + 1))) _
          refine wq_ireturn (pc := 55) dM_hurry_55 trivial ?_
          exact H
      · have H := H.2 c4
        show Wq 3 0 0 mM_hurry 30 [iR 80, iI x1, iI x2, iI x3, none] [vI 0] M _
        refine wq_if_ne (pc := 30) (tgt := 40) dM_hurry_30 (by decide) (fun q => absurd q (by decide)) (fun _ => ?_)
        refine wq_aload_n (pc := 33) dM_hurry_33 rfl rfl ?_
        refine wq_ldc (pc := 34) (z := (-1000001)) dM_hurry_34 kO_M_78 (by decide) ?_
        refine wq_callV (d' := 1) (pc := 36) (as := [vI (-1000001)]) (rest := []) (lo' := [iR 80, iI ((-1000001))]) dM_hurry_36 mO_M_finding lV_M_79 sh_80 (by decide) cl_11 rfl rfl rfl rfl rfl rfl ?_
        refine sp_M_finding (k := 1) (by decide) (by decide) (by decide) hS ?_
        show Wq 3 0 0 mM_hurry 39 [iR 80, iI x1, iI x2, iI x3, none] [vI (-1000001)] (sI M 83 1 (wr (gI M 83 1 + 1))) _
        refine wq_ireturn (pc := 39) dM_hurry_39 trivial ?_
        exact H
    · have H := H.2 c3
      show Wq 3 0 0 mM_hurry 18 [iR 80, iI x1, iI x2, iI x3, none] [vI 0] M _
      refine wq_if_eq (pc := 18) (tgt := 33) dM_hurry_18 (by decide) (fun _ => ?_) (fun q => absurd (by decide) q)
      refine wq_aload_n (pc := 33) dM_hurry_33 rfl rfl ?_
      refine wq_ldc (pc := 34) (z := (-1000001)) dM_hurry_34 kO_M_78 (by decide) ?_
      refine wq_callV (d' := 1) (pc := 36) (as := [vI (-1000001)]) (rest := []) (lo' := [iR 80, iI ((-1000001))]) dM_hurry_36 mO_M_finding lV_M_79 sh_80 (by decide) cl_11 rfl rfl rfl rfl rfl rfl ?_
      refine sp_M_finding (k := 1) (by decide) (by decide) (by decide) hS ?_
      show Wq 3 0 0 mM_hurry 39 [iR 80, iI x1, iI x2, iI x3, none] [vI (-1000001)] (sI M 83 1 (wr (gI M 83 1 + 1))) _
      refine wq_ireturn (pc := 39) dM_hurry_39 trivial ?_
      exact H
  · have H := H.2 c2
    show Wq 3 0 0 mM_hurry 6 [iR 80, iI x1, iI x2, iI x3, none] [vI 0] M _
    refine wq_if_eq (pc := 6) (tgt := 33) dM_hurry_6 (by decide) (fun _ => ?_) (fun q => absurd (by decide) q)
    refine wq_aload_n (pc := 33) dM_hurry_33 rfl rfl ?_
    refine wq_ldc (pc := 34) (z := (-1000001)) dM_hurry_34 kO_M_78 (by decide) ?_
    refine wq_callV (d' := 1) (pc := 36) (as := [vI (-1000001)]) (rest := []) (lo' := [iR 80, iI ((-1000001))]) dM_hurry_36 mO_M_finding lV_M_79 sh_80 (by decide) cl_11 rfl rfl rfl rfl rfl rfl ?_
    refine sp_M_finding (k := 1) (by decide) (by decide) (by decide) hS ?_
    show Wq 3 0 0 mM_hurry 39 [iR 80, iI x1, iI x2, iI x3, none] [vI (-1000001)] (sI M 83 1 (wr (gI M 83 1 + 1))) _
    refine wq_ireturn (pc := 39) dM_hurry_39 trivial ?_
    exact H

set_option maxRecDepth 20000 in
theorem B_M_hurry_61 {x1 x2 x3 y0 : Int} {M : Mm} {Q : Mm → Option Mv → Prop} (hS : RefOK M) (H : ((0 < y0 → Q (sI M 83 3 (wr (gI M 83 3 + 1))) (some (vI (-1000003)))) ∧ (¬ 0 < y0 → ((0 ≤ 11 + 3 * x1 ∧ 11 + 3 * x1 < 1993) ∧ ((x2 < gI M 81 (11 + 3 * x1) → ((¬ gI M 81 6 = 5 → (((0 ≤ 1018 + 3 * gI M 81 6 ∧ 1018 + 3 * gI M 81 6 < 1993) ∧ (0 ≤ 1019 + 3 * gI M 81 6 ∧ 1019 + 3 * gI M 81 6 < 1993) ∧ (0 ≤ 1020 + 3 * gI M 81 6 ∧ 1020 + 3 * gI M 81 6 < 1993) ∧ 6 ≠ 1020 + 3 * gI M 81 6 ∧ 6 ≠ 1019 + 3 * gI M 81 6 ∧ 6 ≠ 1018 + 3 * gI M 81 6 ∧ (-2147483648 ≤ gI M 81 6 + 1 ∧ gI M 81 6 + 1 < 2147483648)) ∧ Q (sI (sI (sI (sI M 81 (1018 + 3 * gI M 81 6) x1) 81 (1019 + 3 * gI M 81 6) x2) 81 (1020 + 3 * gI M 81 6) x3) 81 6 (gI M 81 6 + 1)) (some (vI (gI M 81 6 + 1))))) ∧ (gI M 81 6 = 5 → Q (sI M 83 4 (wr (gI M 83 4 + 1))) (some (vI (-1000004)))))) ∧ (¬ x2 < gI M 81 (11 + 3 * x1) → Q (sI M 83 3 (wr (gI M 83 3 + 1))) (some (vI (-1000003))))))))) : Wq 3 0 0 mM_hurry 61 [iR 80, iI x1, iI x2, iI x3, none] [vI y0] M Q := by
  refine wq_if_gt (pc := 61) (tgt := 73) dM_hurry_61 (by decide) (fun c1 => ?_) (fun c1 => ?_)
  · have H := H.1 c1
    refine wq_aload_n (pc := 73) dM_hurry_73 rfl rfl ?_
    refine wq_ldc (pc := 74) (z := (-1000003)) dM_hurry_74 kO_M_101 (by decide) ?_
    refine wq_callV (d' := 1) (pc := 76) (as := [vI (-1000003)]) (rest := []) (lo' := [iR 80, iI ((-1000003))]) dM_hurry_76 mO_M_finding lV_M_79 sh_80 (by decide) cl_11 rfl rfl rfl rfl rfl rfl ?_
    refine sp_M_finding (k := 3) (by decide) (by decide) (by decide) hS ?_
    show Wq 3 0 0 mM_hurry 79 [iR 80, iI x1, iI x2, iI x3, none] [vI (-1000003)] (sI M 83 3 (wr (gI M 83 3 + 1))) _
    refine wq_ireturn (pc := 79) dM_hurry_79 trivial ?_
    exact H
  · have H := H.2 c1
    obtain ⟨s2, H⟩ := H
    refine wq_aload_n (pc := 64) dM_hurry_64 rfl rfl ?_
    refine wq_iload_n (pc := 65) dM_hurry_65 rfl rfl ?_
    refine wq_callV (d' := 1) (pc := 66) (as := [vI x1]) (rest := []) (lo' := [iR 80, iI x1]) dM_hurry_66 mO_M_longOf lV_M_95 sh_80 (by decide) cl_11 rfl rfl rfl rfl rfl rfl ?_
    refine sp_M_longOf hS s2 ?_
    show Wq 3 0 0 mM_hurry 69 [iR 80, iI x1, iI x2, iI x3, none] [vI (gI M 81 (11 + 3 * x1))] M _
    refine wq_iload_n (pc := 69) dM_hurry_69 rfl rfl ?_
    refine wq_icmp_gt (pc := 70) (tgt := 80) dM_hurry_70 (by decide) (fun c3 => ?_) (fun c3 => ?_)
    · have H := H.1 c3
      refine wq_aload_n (pc := 80) dM_hurry_80 rfl rfl ?_
      refine wq_getR (pc := 81) (z := 0) (b := 81) dM_hurry_81 fO_M_9 sh_80 rfl rfl (rf_80_0 hS) ?_
      refine wq_bipush (pc := 84) dM_hurry_84 rfl ?_
      refine wq_iald (pc := 86) dM_hurry_86 sh_81 (by decide) (by decide) ?_
      refine wq_istore (pc := 87) (lo' := [iR 80, iI x1, iI x2, iI x3, iI (gI M 81 6)]) dM_hurry_87 rfl rfl ?_
      refine wq_iload (pc := 89) dM_hurry_89 rfl ?_
      refine wq_iconst (pc := 91) dM_hurry_91 rfl ?_
      refine wq_icmp_ne (pc := 92) (tgt := 102) dM_hurry_92 (by decide) (fun c4 => ?_) (fun c4 => ?_)
      · have H := H.1 c4
        obtain ⟨⟨s5, s6, s7, s8, s9, s10, s11⟩, H⟩ := H
        refine wq_aload_n (pc := 102) dM_hurry_102 rfl rfl ?_
        refine wq_getR (pc := 103) (z := 0) (b := 81) dM_hurry_103 fO_M_9 sh_80 rfl rfl (rf_80_0 hS) ?_
        refine wq_sipush (pc := 106) dM_hurry_106 rfl ?_
        refine wq_iconst (pc := 109) dM_hurry_109 rfl ?_
        refine wq_iload (pc := 110) dM_hurry_110 rfl ?_
        refine wq_imul (pc := 112) dM_hurry_112 ?_
        refine wq_iadd (pc := 113) dM_hurry_113 ?_
        refine wq_iload_n (pc := 114) dM_hurry_114 rfl rfl ?_
        refine wq_re2 (x := (wr (1018 + wr (3 * gI M 81 6)))) (y := (1018 + 3 * gI M 81 6)) (by (try simp only [wr_al, wr_ar, wr_sl, wr_sr, wr_ml, wr_mr, wr_nn, wr_ww]); exact Eq.trans (wr_eq (by omega) (by omega)) (by omega)) ?_
        refine wq_iast (pc := 115) dM_hurry_115 sh_81 (by decide) s5.1 s5.2 ?_
        refine wq_aload_n (pc := 116) dM_hurry_116 rfl rfl ?_
        refine wq_getR (pc := 117) (z := 0) (b := 81) dM_hurry_117 fO_M_9 sh_80 rfl rfl (rf_80_0 hS) ?_
        refine wq_sipush (pc := 120) dM_hurry_120 rfl ?_
        refine wq_iconst (pc := 123) dM_hurry_123 rfl ?_
        refine wq_iload (pc := 124) dM_hurry_124 rfl ?_
        refine wq_imul (pc := 126) dM_hurry_126 ?_
        refine wq_iadd (pc := 127) dM_hurry_127 ?_
        refine wq_iconst (pc := 128) dM_hurry_128 rfl ?_
        refine wq_iadd (pc := 129) dM_hurry_129 ?_
        refine wq_iload_n (pc := 130) dM_hurry_130 rfl rfl ?_
        refine wq_re2 (x := (wr (wr (1018 + wr (3 * gI M 81 6)) + 1))) (y := (1019 + 3 * gI M 81 6)) (by (try simp only [wr_al, wr_ar, wr_sl, wr_sr, wr_ml, wr_mr, wr_nn, wr_ww]); exact Eq.trans (wr_eq (by omega) (by omega)) (by omega)) ?_
        refine wq_iast (pc := 131) dM_hurry_131 sh_81 (by decide) s6.1 s6.2 ?_
        refine wq_aload_n (pc := 132) dM_hurry_132 rfl rfl ?_
        refine wq_getR (pc := 133) (z := 0) (b := 81) dM_hurry_133 fO_M_9 sh_80 rfl rfl (rf_80_0 hS) ?_
        refine wq_sipush (pc := 136) dM_hurry_136 rfl ?_
        refine wq_iconst (pc := 139) dM_hurry_139 rfl ?_
        refine wq_iload (pc := 140) dM_hurry_140 rfl ?_
        refine wq_imul (pc := 142) dM_hurry_142 ?_
        refine wq_iadd (pc := 143) dM_hurry_143 ?_
        refine wq_iconst (pc := 144) dM_hurry_144 rfl ?_
        refine wq_iadd (pc := 145) dM_hurry_145 ?_
        refine wq_iload_n (pc := 146) dM_hurry_146 rfl rfl ?_
        refine wq_re2 (x := (wr (wr (1018 + wr (3 * gI M 81 6)) + 2))) (y := (1020 + 3 * gI M 81 6)) (by (try simp only [wr_al, wr_ar, wr_sl, wr_sr, wr_ml, wr_mr, wr_nn, wr_ww]); exact Eq.trans (wr_eq (by omega) (by omega)) (by omega)) ?_
        refine wq_iast (pc := 147) dM_hurry_147 sh_81 (by decide) s7.1 s7.2 ?_
        refine wq_aload_n (pc := 148) dM_hurry_148 rfl rfl ?_
        refine wq_getR (pc := 149) (z := 0) (b := 81) dM_hurry_149 fO_M_9 sh_80 rfl rfl (rf_80_0 hS) ?_
        refine wq_bipush (pc := 152) dM_hurry_152 rfl ?_
        refine wq_dup2 (pc := 154) dM_hurry_154 rfl rfl ?_
        refine wq_iald (pc := 155) dM_hurry_155 sh_81 (by decide) (by decide) ?_
        refine wq_re (x := (gI (sI (sI (sI M 81 (1018 + 3 * gI M 81 6) x1) 81 (1019 + 3 * gI M 81 6) x2) 81 (1020 + 3 * gI M 81 6) x3) 81 6)) (y := (gI M 81 6)) (Eq.trans (gI_n (Or.inr s8)) (Eq.trans (gI_n (Or.inr s9)) (gI_n (Or.inr s10)))) ?_
        refine wq_iconst (pc := 156) dM_hurry_156 rfl ?_
        refine wq_iadd (pc := 157) dM_hurry_157 ?_
        refine wq_re (x := (wr (gI M 81 6 + 1))) (y := (gI M 81 6 + 1)) (Eq.trans (wr_eq (by omega) (by omega)) (by omega)) ?_
        refine wq_iast (pc := 158) dM_hurry_158 sh_81 (by decide) (by decide) (by decide) ?_
        refine wq_aload_n (pc := 159) dM_hurry_159 rfl rfl ?_
        refine wq_getR (pc := 160) (z := 0) (b := 81) dM_hurry_160 fO_M_9 sh_80 rfl rfl (rf_80_0 hS) ?_
        refine wq_bipush (pc := 163) dM_hurry_163 rfl ?_
        refine wq_iald (pc := 165) dM_hurry_165 sh_81 (by decide) (by decide) ?_
        refine wq_re (x := (gI (sI (sI (sI (sI M 81 (1018 + 3 * gI M 81 6) x1) 81 (1019 + 3 * gI M 81 6) x2) 81 (1020 + 3 * gI M 81 6) x3) 81 6 (gI M 81 6 + 1)) 81 6)) (y := (gI M 81 6 + 1)) rfl ?_
        refine wq_ireturn (pc := 166) dM_hurry_166 trivial ?_
        exact H
      · have H := H.2 c4
        refine wq_aload_n (pc := 95) dM_hurry_95 rfl rfl ?_
        refine wq_ldc (pc := 96) (z := (-1000004)) dM_hurry_96 kO_M_83 (by decide) ?_
        refine wq_callV (d' := 1) (pc := 98) (as := [vI (-1000004)]) (rest := []) (lo' := [iR 80, iI ((-1000004))]) dM_hurry_98 mO_M_finding lV_M_79 sh_80 (by decide) cl_11 rfl rfl rfl rfl rfl rfl ?_
        refine sp_M_finding (k := 4) (by decide) (by decide) (by decide) hS ?_
        show Wq 3 0 0 mM_hurry 101 [iR 80, iI x1, iI x2, iI x3, iI (gI M 81 6)] [vI (-1000004)] (sI M 83 4 (wr (gI M 83 4 + 1))) _
        refine wq_ireturn (pc := 101) dM_hurry_101 trivial ?_
        exact H
    · have H := H.2 c3
      refine wq_aload_n (pc := 73) dM_hurry_73 rfl rfl ?_
      refine wq_ldc (pc := 74) (z := (-1000003)) dM_hurry_74 kO_M_101 (by decide) ?_
      refine wq_callV (d' := 1) (pc := 76) (as := [vI (-1000003)]) (rest := []) (lo' := [iR 80, iI ((-1000003))]) dM_hurry_76 mO_M_finding lV_M_79 sh_80 (by decide) cl_11 rfl rfl rfl rfl rfl rfl ?_
      refine sp_M_finding (k := 3) (by decide) (by decide) (by decide) hS ?_
      show Wq 3 0 0 mM_hurry 79 [iR 80, iI x1, iI x2, iI x3, none] [vI (-1000003)] (sI M 83 3 (wr (gI M 83 3 + 1))) _
      refine wq_ireturn (pc := 79) dM_hurry_79 trivial ?_
      exact H
set_option maxRecDepth 20000 in
theorem B_H_mostOf_0 {x1 : Int} {M : Mm} {Q : Mm → Option Mv → Prop} (H : Wq 1 0 0 mH_mostOf 2 [iR 26, iI x1, iI 0] [] M Q) : Wq 1 0 0 mH_mostOf 0 [iR 26, iI x1, none] [] M Q := by
  refine wq_iconst (pc := 0) dH_mostOf_0 rfl ?_
  refine wq_istore_n (pc := 1) (lo' := [iR 26, iI x1, iI 0]) dH_mostOf_1 rfl rfl rfl ?_
  exact H

set_option maxRecDepth 20000 in
theorem B_H_mostOf_2 {x1 x2 : Int} {M : Mm} {Q : Mm → Option Mv → Prop} (hS : RefOK M) (H : ((gI M 26 3 ≤ x2 → Q M (some (vI 0))) ∧ (¬ gI M 26 3 ≤ x2 → ((0 ≤ x2 ∧ x2 < 5) ∧ ((¬ gI M 27 x2 = x1 → ((-2147483648 ≤ x2 + 1 ∧ x2 + 1 < 2147483648) ∧ Wq 1 0 0 mH_mostOf 2 [iR 26, iI x1, iI (x2 + 1)] [] M Q)) ∧ (gI M 27 x2 = x1 → Q M (some (vI (gI M 28 x2))))))))) : Wq 1 0 0 mH_mostOf 2 [iR 26, iI x1, iI x2] [] M Q := by
  refine wq_iload_n (pc := 2) dH_mostOf_2 rfl rfl ?_
  refine wq_aload_n (pc := 3) dH_mostOf_3 rfl rfl ?_
  refine wq_getI (pc := 4) (z := 3) dH_mostOf_4 fO_H_21 sh_26 rfl rfl ?_
  refine wq_icmp_ge (pc := 7) (tgt := 33) dH_mostOf_7 (by decide) (fun c1 => ?_) (fun c1 => ?_)
  · have H := H.1 c1
    refine wq_iconst (pc := 33) dH_mostOf_33 rfl ?_
    refine wq_ireturn (pc := 34) dH_mostOf_34 trivial ?_
    exact H
  · have H := H.2 c1
    obtain ⟨s2, H⟩ := H
    refine wq_aload_n (pc := 10) dH_mostOf_10 rfl rfl ?_
    refine wq_getR (pc := 11) (z := 0) (b := 27) dH_mostOf_11 fO_H_9 sh_26 rfl rfl (rf_26_0 hS) ?_
    refine wq_iload_n (pc := 14) dH_mostOf_14 rfl rfl ?_
    refine wq_iald (pc := 15) dH_mostOf_15 sh_27 s2.1 s2.2 ?_
    refine wq_iload_n (pc := 16) dH_mostOf_16 rfl rfl ?_
    refine wq_icmp_ne (pc := 17) (tgt := 27) dH_mostOf_17 (by decide) (fun c3 => ?_) (fun c3 => ?_)
    · have H := H.1 c3
      obtain ⟨s4, H⟩ := H
      refine wq_iinc (pc := 27) (lo' := [iR 26, iI x1, iI (x2 + 1)]) dH_mostOf_27 rfl rfl (by rw [show wr (x2 + 1) = x2 + 1 from (Eq.trans (wr_eq (by omega) (by omega)) (by omega))]; rfl) ?_
      refine wq_goto (pc := 30) (tgt := 2) dH_mostOf_30 (by decide) ?_
      exact H
    · have H := H.2 c3
      refine wq_aload_n (pc := 20) dH_mostOf_20 rfl rfl ?_
      refine wq_getR (pc := 21) (z := 1) (b := 28) dH_mostOf_21 fO_H_15 sh_26 rfl rfl (rf_26_1 hS) ?_
      refine wq_iload_n (pc := 24) dH_mostOf_24 rfl rfl ?_
      refine wq_iald (pc := 25) dH_mostOf_25 sh_28 s2.1 s2.2 ?_
      refine wq_ireturn (pc := 26) dH_mostOf_26 trivial ?_
      exact H
set_option maxRecDepth 20000 in
theorem B_H_add_0 {x1 x2 x3 : Int} {M : Mm} {Q : Mm → Option Mv → Prop} (hS : RefOK M) (H : (((0 ≤ gI M 26 3 ∧ gI M 26 3 < 5) ∧ (-2147483648 ≤ gI M 26 3 + 1 ∧ gI M 26 3 + 1 < 2147483648)) ∧ Q (sI (sI (sI (sI M 27 (gI M 26 3) x1) 28 (gI M 26 3) x2) 29 (gI M 26 3) x3) 26 3 (gI M 26 3 + 1)) (some (vI (gI M 26 3 + 1))))) : Wq 1 0 0 mH_add 0 [iR 26, iI x1, iI x2, iI x3] [] M Q := by
  obtain ⟨⟨s1, s2⟩, H⟩ := H
  refine wq_aload_n (pc := 0) dH_add_0 rfl rfl ?_
  refine wq_getR (pc := 1) (z := 0) (b := 27) dH_add_1 fO_H_9 sh_26 rfl rfl (rf_26_0 hS) ?_
  refine wq_aload_n (pc := 4) dH_add_4 rfl rfl ?_
  refine wq_getI (pc := 5) (z := 3) dH_add_5 fO_H_21 sh_26 rfl rfl ?_
  refine wq_iload_n (pc := 8) dH_add_8 rfl rfl ?_
  refine wq_iast (pc := 9) dH_add_9 sh_27 (by decide) s1.1 s1.2 ?_
  refine wq_aload_n (pc := 10) dH_add_10 rfl rfl ?_
  refine wq_getR (pc := 11) (z := 1) (b := 28) dH_add_11 fO_H_15 sh_26 rfl rfl (rf_26_1 hS) ?_
  refine wq_aload_n (pc := 14) dH_add_14 rfl rfl ?_
  refine wq_getI (pc := 15) (z := 3) dH_add_15 fO_H_21 sh_26 rfl rfl ?_
  refine wq_re (x := (gI (sI M 27 (gI M 26 3) x1) 26 3)) (y := (gI M 26 3)) rfl ?_
  refine wq_iload_n (pc := 18) dH_add_18 rfl rfl ?_
  refine wq_iast (pc := 19) dH_add_19 sh_28 (by decide) s1.1 s1.2 ?_
  refine wq_aload_n (pc := 20) dH_add_20 rfl rfl ?_
  refine wq_getR (pc := 21) (z := 2) (b := 29) dH_add_21 fO_H_18 sh_26 rfl rfl (rf_26_2 hS) ?_
  refine wq_aload_n (pc := 24) dH_add_24 rfl rfl ?_
  refine wq_getI (pc := 25) (z := 3) dH_add_25 fO_H_21 sh_26 rfl rfl ?_
  refine wq_re (x := (gI (sI (sI M 27 (gI M 26 3) x1) 28 (gI M 26 3) x2) 26 3)) (y := (gI M 26 3)) rfl ?_
  refine wq_iload_n (pc := 28) dH_add_28 rfl rfl ?_
  refine wq_iast (pc := 29) dH_add_29 sh_29 (by decide) s1.1 s1.2 ?_
  refine wq_aload_n (pc := 30) dH_add_30 rfl rfl ?_
  refine wq_dup (pc := 31) dH_add_31 rfl ?_
  refine wq_getI (pc := 32) (z := 3) dH_add_32 fO_H_21 sh_26 rfl rfl ?_
  refine wq_re (x := (gI (sI (sI (sI M 27 (gI M 26 3) x1) 28 (gI M 26 3) x2) 29 (gI M 26 3) x3) 26 3)) (y := (gI M 26 3)) rfl ?_
  refine wq_iconst (pc := 35) dH_add_35 rfl ?_
  refine wq_iadd (pc := 36) dH_add_36 ?_
  refine wq_re (x := (wr (gI M 26 3 + 1))) (y := (gI M 26 3 + 1)) (Eq.trans (wr_eq (by omega) (by omega)) (by omega)) ?_
  refine wq_putI (pc := 37) (z := 3) dH_add_37 fW_H_21 sh_26 rfl rfl ?_
  refine wq_aload_n (pc := 40) dH_add_40 rfl rfl ?_
  refine wq_getI (pc := 41) (z := 3) dH_add_41 fO_H_21 sh_26 rfl rfl ?_
  refine wq_re (x := (gI (sI (sI (sI (sI M 27 (gI M 26 3) x1) 28 (gI M 26 3) x2) 29 (gI M 26 3) x3) 26 3 (gI M 26 3 + 1)) 26 3)) (y := (gI M 26 3 + 1)) rfl ?_
  refine wq_ireturn (pc := 44) dH_add_44 trivial ?_
  exact H
set_option maxRecDepth 20000 in
theorem B_M_hurried_0 {x1 : Int} {M : Mm} {Q : Mm → Option Mv → Prop} (H : Wq 1 0 0 mM_hurried 4 [iR 80, iI x1, iI 0, iI 0] [] M Q) : Wq 1 0 0 mM_hurried 0 [iR 80, iI x1, none, none] [] M Q := by
  refine wq_iconst (pc := 0) dM_hurried_0 rfl ?_
  refine wq_istore_n (pc := 1) (lo' := [iR 80, iI x1, iI 0, none]) dM_hurried_1 rfl rfl rfl ?_
  refine wq_iconst (pc := 2) dM_hurried_2 rfl ?_
  refine wq_istore_n (pc := 3) (lo' := [iR 80, iI x1, iI 0, iI 0]) dM_hurried_3 rfl rfl rfl ?_
  exact H

set_option maxRecDepth 20000 in
theorem B_M_hurried_4 {x1 x2 x3 : Int} {M : Mm} {Q : Mm → Option Mv → Prop} (hS : RefOK M) (H : ((gI M 81 6 ≤ x3 → Q M (some (vI x2))) ∧ (¬ gI M 81 6 ≤ x3 → ((0 ≤ 1018 + 3 * x3 ∧ 1018 + 3 * x3 < 1993) ∧ ((¬ gI M 81 (1018 + 3 * x3) = x1 → ((-2147483648 ≤ x3 + 1 ∧ x3 + 1 < 2147483648) ∧ Wq 1 0 0 mM_hurried 4 [iR 80, iI x1, iI x2, iI (x3 + 1)] [] M Q)) ∧ (gI M 81 (1018 + 3 * x3) = x1 → (((0 ≤ 1019 + 3 * x3 ∧ 1019 + 3 * x3 < 1993) ∧ (-2147483648 ≤ x3 + 1 ∧ x3 + 1 < 2147483648)) ∧ Wq 1 0 0 mM_hurried 4 [iR 80, iI x1, iI (gI M 81 (1019 + 3 * x3)), iI (x3 + 1)] [] M Q))))))) : Wq 1 0 0 mM_hurried 4 [iR 80, iI x1, iI x2, iI x3] [] M Q := by
  refine wq_iload_n (pc := 4) dM_hurried_4 rfl rfl ?_
  refine wq_aload_n (pc := 5) dM_hurried_5 rfl rfl ?_
  refine wq_getR (pc := 6) (z := 0) (b := 81) dM_hurried_6 fO_M_9 sh_80 rfl rfl (rf_80_0 hS) ?_
  refine wq_bipush (pc := 9) dM_hurried_9 rfl ?_
  refine wq_iald (pc := 11) dM_hurried_11 sh_81 (by decide) (by decide) ?_
  refine wq_icmp_ge (pc := 12) (tgt := 56) dM_hurried_12 (by decide) (fun c1 => ?_) (fun c1 => ?_)
  · have H := H.1 c1
    refine wq_iload_n (pc := 56) dM_hurried_56 rfl rfl ?_
    refine wq_ireturn (pc := 57) dM_hurried_57 trivial ?_
    exact H
  · have H := H.2 c1
    obtain ⟨s2, H⟩ := H
    refine wq_aload_n (pc := 15) dM_hurried_15 rfl rfl ?_
    refine wq_getR (pc := 16) (z := 0) (b := 81) dM_hurried_16 fO_M_9 sh_80 rfl rfl (rf_80_0 hS) ?_
    refine wq_sipush (pc := 19) dM_hurried_19 rfl ?_
    refine wq_iconst (pc := 22) dM_hurried_22 rfl ?_
    refine wq_iload_n (pc := 23) dM_hurried_23 rfl rfl ?_
    refine wq_imul (pc := 24) dM_hurried_24 ?_
    refine wq_iadd (pc := 25) dM_hurried_25 ?_
    refine wq_re (x := (wr (1018 + wr (3 * x3)))) (y := (1018 + 3 * x3)) (by (try simp only [wr_al, wr_ar, wr_sl, wr_sr, wr_ml, wr_mr, wr_nn, wr_ww]); exact Eq.trans (wr_eq (by omega) (by omega)) (by omega)) ?_
    refine wq_iald (pc := 26) dM_hurried_26 sh_81 s2.1 s2.2 ?_
    refine wq_iload_n (pc := 27) dM_hurried_27 rfl rfl ?_
    refine wq_icmp_ne (pc := 28) (tgt := 48) dM_hurried_28 (by decide) (fun c3 => ?_) (fun c3 => ?_)
    · have H := H.1 c3
      obtain ⟨s4, H⟩ := H
      refine wq_iload_n (pc := 48) dM_hurried_48 rfl rfl ?_
      refine wq_istore_n (pc := 49) (lo' := [iR 80, iI x1, iI x2, iI x3]) dM_hurried_49 rfl rfl rfl ?_
      refine wq_iinc (pc := 50) (lo' := [iR 80, iI x1, iI x2, iI (x3 + 1)]) dM_hurried_50 rfl rfl (by rw [show wr (x3 + 1) = x3 + 1 from (Eq.trans (wr_eq (by omega) (by omega)) (by omega))]; rfl) ?_
      refine wq_goto (pc := 53) (tgt := 4) dM_hurried_53 (by decide) ?_
      exact H
    · have H := H.2 c3
      obtain ⟨⟨s5, s6⟩, H⟩ := H
      refine wq_aload_n (pc := 31) dM_hurried_31 rfl rfl ?_
      refine wq_getR (pc := 32) (z := 0) (b := 81) dM_hurried_32 fO_M_9 sh_80 rfl rfl (rf_80_0 hS) ?_
      refine wq_sipush (pc := 35) dM_hurried_35 rfl ?_
      refine wq_iconst (pc := 38) dM_hurried_38 rfl ?_
      refine wq_iload_n (pc := 39) dM_hurried_39 rfl rfl ?_
      refine wq_imul (pc := 40) dM_hurried_40 ?_
      refine wq_iadd (pc := 41) dM_hurried_41 ?_
      refine wq_iconst (pc := 42) dM_hurried_42 rfl ?_
      refine wq_iadd (pc := 43) dM_hurried_43 ?_
      refine wq_re (x := (wr (wr (1018 + wr (3 * x3)) + 1))) (y := (1019 + 3 * x3)) (by (try simp only [wr_al, wr_ar, wr_sl, wr_sr, wr_ml, wr_mr, wr_nn, wr_ww]); exact Eq.trans (wr_eq (by omega) (by omega)) (by omega)) ?_
      refine wq_iald (pc := 44) dM_hurried_44 sh_81 s5.1 s5.2 ?_
      refine wq_goto (pc := 45) (tgt := 49) dM_hurried_45 (by decide) ?_
      refine wq_istore_n (pc := 49) (lo' := [iR 80, iI x1, iI (gI M 81 (1019 + 3 * x3)), iI x3]) dM_hurried_49 rfl rfl rfl ?_
      refine wq_iinc (pc := 50) (lo' := [iR 80, iI x1, iI (gI M 81 (1019 + 3 * x3)), iI (x3 + 1)]) dM_hurried_50 rfl rfl (by rw [show wr (x3 + 1) = x3 + 1 from (Eq.trans (wr_eq (by omega) (by omega)) (by omega))]; rfl) ?_
      refine wq_goto (pc := 53) (tgt := 4) dM_hurried_53 (by decide) ?_
      exact H
set_option maxRecDepth 20000 in
theorem B_D_event_0 {x1 x2 x3 : Int} {M : Mm} {Q : Mm → Option Mv → Prop} (hS : RefOK M) (H : ((x1 < 0 → Q (sI M 69 1 (wr (gI M 69 1 + 1))) (some (vI (-1000001)))) ∧ (¬ x1 < 0 → ((-2147483648 ≤ Int.tdiv x1 10 ∧ Int.tdiv x1 10 < 2147483648) ∧ ((0 ≤ Int.tdiv x1 10 ∧ Int.tdiv x1 10 < gI M 5 6 → ((-2147483648 ≤ Int.tmod x1 10 ∧ Int.tmod x1 10 < 2147483648) ∧ ((0 ≤ Int.tmod x1 10 ∧ Int.tmod x1 10 ≤ 3 → ((0 ≤ x2 ∧ x2 ≤ gI M 1 5 → ((1 ≤ x3 ∧ x3 ≤ 30 → ((gI M 12 7 < 20 → Wq 1 0 0 mE_add 0 [iR 12, iI x1, iI x2, iI x3, iI (gI M 1 5)] [] M (fun M' v => Wq 3 0 0 mD_event 117 [iR 0, iI x1, iI x2, iI x3, iI 1] (v.toList ++ []) M' Q)) ∧ (¬ gI M 12 7 < 20 → Q (sI M 69 4 (wr (gI M 69 4 + 1))) (some (vI (-1000004)))))) ∧ (¬ (1 ≤ x3 ∧ x3 ≤ 30) → Q (sI M 69 1 (wr (gI M 69 1 + 1))) (some (vI (-1000001)))))) ∧ (¬ (0 ≤ x2 ∧ x2 ≤ gI M 1 5) → Q (sI M 69 1 (wr (gI M 69 1 + 1))) (some (vI (-1000001)))))) ∧ (¬ (0 ≤ Int.tmod x1 10 ∧ Int.tmod x1 10 ≤ 3) → Q (sI M 69 1 (wr (gI M 69 1 + 1))) (some (vI (-1000001))))))) ∧ (¬ (0 ≤ Int.tdiv x1 10 ∧ Int.tdiv x1 10 < gI M 5 6) → Q (sI M 69 1 (wr (gI M 69 1 + 1))) (some (vI (-1000001))))))))) : Wq 3 0 0 mD_event 0 [iR 0, iI x1, iI x2, iI x3, none] [] M Q := by
  refine wq_iload_n (pc := 0) dD_event_0 rfl rfl ?_
  refine wq_if_lt (pc := 1) (tgt := 35) dD_event_1 (by decide) (fun c1 => ?_) (fun c1 => ?_)
  · have H := H.1 c1
    refine wq_iconst (pc := 35) dD_event_35 rfl ?_
    refine wq_istore (pc := 36) (lo' := [iR 0, iI x1, iI x2, iI x3, iI 0]) dD_event_36 rfl rfl ?_
    refine wq_iload (pc := 38) dD_event_38 rfl ?_
    refine wq_if_eq (pc := 40) (tgt := 68) dD_event_40 (by decide) (fun _ => ?_) (fun q => absurd (by decide) q)
    refine wq_aload_n (pc := 68) dD_event_68 rfl rfl ?_
    refine wq_ldc (pc := 69) (z := (-1000001)) dD_event_69 kO_D_69 (by decide) ?_
    refine wq_callV (d' := 2) (pc := 71) (as := [vI (-1000001)]) (rest := []) (lo' := [iR 0, iI ((-1000001)), none]) dD_event_71 mO_D_finding lV_D_70 sh_0 (by decide) cl_10 rfl rfl rfl rfl rfl rfl ?_
    refine sp_D_finding (k := 1) (by decide) (by decide) (by decide) hS ?_
    show Wq 3 0 0 mD_event 74 [iR 0, iI x1, iI x2, iI x3, iI 0] [vI (-1000001)] (sI M 69 1 (wr (gI M 69 1 + 1))) _
    refine wq_ireturn (pc := 74) dD_event_74 trivial ?_
    exact H
  · have H := H.2 c1
    obtain ⟨s2, H⟩ := H
    refine wq_aload_n (pc := 4) dD_event_4 rfl rfl ?_
    refine wq_getR (pc := 5) (z := 0) (b := 1) dD_event_5 fO_D_12 sh_0 rfl rfl (rf_0_0 hS) ?_
    refine wq_getR (pc := 8) (z := 1) (b := 5) dD_event_8 fO_D_74 sh_1 rfl rfl (rf_1_1 hS) ?_
    refine wq_iload_n (pc := 11) dD_event_11 rfl rfl ?_
    refine wq_bipush (pc := 12) dD_event_12 rfl ?_
    refine wq_idiv (pc := 14) dD_event_14 (by decide) ?_
    refine wq_re (x := (wr (Int.tdiv x1 10))) (y := (Int.tdiv x1 10)) (Eq.trans (wr_eq (by omega) (by omega)) (by omega)) ?_
    refine wq_callV (d' := 1) (pc := 15) (as := [vI (Int.tdiv x1 10)]) (rest := []) (lo' := [iR 5, iI (Int.tdiv x1 10)]) dD_event_15 mO_W_has lV_D_88 sh_5 (by decide) cl_9 rfl rfl rfl rfl rfl rfl ?_
    refine sp_W_has (fun c3 => ?_) (fun c3 => ?_)
    · have H := H.1 c3
      show Wq 3 0 0 mD_event 18 [iR 0, iI x1, iI x2, iI x3, none] [vI 1] M _
      obtain ⟨s4, H⟩ := H
      refine wq_if_eq (pc := 18) (tgt := 35) dD_event_18 (by decide) (fun q => absurd q (by decide)) (fun _ => ?_)
      refine wq_iload_n (pc := 21) dD_event_21 rfl rfl ?_
      refine wq_bipush (pc := 22) dD_event_22 rfl ?_
      refine wq_irem (pc := 24) dD_event_24 (by decide) ?_
      refine wq_re (x := (wr (Int.tmod x1 10))) (y := (Int.tmod x1 10)) (Eq.trans (wr_eq (by omega) (by omega)) (by omega)) ?_
      refine wq_callS (d' := 2) (pc := 25) (as := [vI (Int.tmod x1 10)]) (rest := []) (lo' := [iI (Int.tmod x1 10)]) dD_event_25 mO_D_isCause lS_D_145 rfl rfl rfl rfl rfl rfl ?_
      refine sp_D_isCause (fun c5 => ?_) (fun c5 => ?_)
      · have H := H.1 c5
        show Wq 3 0 0 mD_event 28 [iR 0, iI x1, iI x2, iI x3, none] [vI 1] M _
        refine wq_if_eq (pc := 28) (tgt := 35) dD_event_28 (by decide) (fun q => absurd q (by decide)) (fun _ => ?_)
        refine wq_iconst (pc := 31) dD_event_31 rfl ?_
        refine wq_goto (pc := 32) (tgt := 36) dD_event_32 (by decide) ?_
        refine wq_istore (pc := 36) (lo' := [iR 0, iI x1, iI x2, iI x3, iI 1]) dD_event_36 rfl rfl ?_
        refine wq_iload (pc := 38) dD_event_38 rfl ?_
        refine wq_if_eq (pc := 40) (tgt := 68) dD_event_40 (by decide) (fun q => absurd q (by decide)) (fun _ => ?_)
        refine wq_iload_n (pc := 43) dD_event_43 rfl rfl ?_
        refine wq_iconst (pc := 44) dD_event_44 rfl ?_
        refine wq_aload_n (pc := 45) dD_event_45 rfl rfl ?_
        refine wq_getR (pc := 46) (z := 0) (b := 1) dD_event_46 fO_D_12 sh_0 rfl rfl (rf_0_0 hS) ?_
        refine wq_getI (pc := 49) (z := 5) dD_event_49 fO_D_142 sh_1 rfl rfl ?_
        refine wq_callS (d' := 1) (pc := 52) (as := [vI x2, vI 0, vI (gI M 1 5)]) (rest := []) (lo' := [iI x2, iI 0, iI (gI M 1 5)]) dD_event_52 mO_D_within lS_D_65 rfl rfl rfl rfl rfl rfl ?_
        refine sp_D_within (fun c6 => ?_) (fun c6 => ?_)
        · have H := H.1 c6
          show Wq 3 0 0 mD_event 55 [iR 0, iI x1, iI x2, iI x3, iI 1] [vI 1] M _
          refine wq_if_eq (pc := 55) (tgt := 68) dD_event_55 (by decide) (fun q => absurd q (by decide)) (fun _ => ?_)
          refine wq_iload_n (pc := 58) dD_event_58 rfl rfl ?_
          refine wq_iconst (pc := 59) dD_event_59 rfl ?_
          refine wq_bipush (pc := 60) dD_event_60 rfl ?_
          refine wq_callS (d' := 1) (pc := 62) (as := [vI x3, vI 1, vI 30]) (rest := []) (lo' := [iI x3, iI 1, iI 30]) dD_event_62 mO_D_within lS_D_65 rfl rfl rfl rfl rfl rfl ?_
          refine sp_D_within (fun c7 => ?_) (fun c7 => ?_)
          · have H := H.1 c7
            show Wq 3 0 0 mD_event 65 [iR 0, iI x1, iI x2, iI x3, iI 1] [vI 1] M _
            refine wq_if_ne (pc := 65) (tgt := 75) dD_event_65 (by decide) (fun _ => ?_) (fun q => absurd q (by decide))
            refine wq_aload_n (pc := 75) dD_event_75 rfl rfl ?_
            refine wq_getR (pc := 76) (z := 0) (b := 1) dD_event_76 fO_D_12 sh_0 rfl rfl (rf_0_0 hS) ?_
            refine wq_getR (pc := 79) (z := 2) (b := 12) dD_event_79 fO_D_148 sh_1 rfl rfl (rf_1_2 hS) ?_
            refine wq_getI (pc := 82) (z := 7) dD_event_82 fO_D_152 sh_12 rfl rfl ?_
            refine wq_bipush (pc := 85) dD_event_85 rfl ?_
            refine wq_icmp_lt (pc := 87) (tgt := 97) dD_event_87 (by decide) (fun c8 => ?_) (fun c8 => ?_)
            · have H := H.1 c8
              refine wq_aload_n (pc := 97) dD_event_97 rfl rfl ?_
              refine wq_getR (pc := 98) (z := 0) (b := 1) dD_event_98 fO_D_12 sh_0 rfl rfl (rf_0_0 hS) ?_
              refine wq_getR (pc := 101) (z := 2) (b := 12) dD_event_101 fO_D_148 sh_1 rfl rfl (rf_1_2 hS) ?_
              refine wq_iload_n (pc := 104) dD_event_104 rfl rfl ?_
              refine wq_iload_n (pc := 105) dD_event_105 rfl rfl ?_
              refine wq_iload_n (pc := 106) dD_event_106 rfl rfl ?_
              refine wq_aload_n (pc := 107) dD_event_107 rfl rfl ?_
              refine wq_getR (pc := 108) (z := 0) (b := 1) dD_event_108 fO_D_12 sh_0 rfl rfl (rf_0_0 hS) ?_
              refine wq_getI (pc := 111) (z := 5) dD_event_111 fO_D_142 sh_1 rfl rfl ?_
              refine wq_callV (d' := 1) (pc := 114) (as := [vI x1, vI x2, vI x3, vI (gI M 1 5)]) (rest := []) (lo' := [iR 12, iI x1, iI x2, iI x3, iI (gI M 1 5)]) dD_event_114 mO_E_add lV_D_155 sh_12 (by decide) cl_2 rfl rfl rfl rfl rfl rfl ?_
              exact H
            · have H := H.2 c8
              refine wq_aload_n (pc := 90) dD_event_90 rfl rfl ?_
              refine wq_ldc (pc := 91) (z := (-1000004)) dD_event_91 kO_D_83 (by decide) ?_
              refine wq_callV (d' := 2) (pc := 93) (as := [vI (-1000004)]) (rest := []) (lo' := [iR 0, iI ((-1000004)), none]) dD_event_93 mO_D_finding lV_D_70 sh_0 (by decide) cl_10 rfl rfl rfl rfl rfl rfl ?_
              refine sp_D_finding (k := 4) (by decide) (by decide) (by decide) hS ?_
              show Wq 3 0 0 mD_event 96 [iR 0, iI x1, iI x2, iI x3, iI 1] [vI (-1000004)] (sI M 69 4 (wr (gI M 69 4 + 1))) _
              refine wq_ireturn (pc := 96) dD_event_96 trivial ?_
              exact H
          · have H := H.2 c7
            show Wq 3 0 0 mD_event 65 [iR 0, iI x1, iI x2, iI x3, iI 1] [vI 0] M _
            refine wq_if_ne (pc := 65) (tgt := 75) dD_event_65 (by decide) (fun q => absurd q (by decide)) (fun _ => ?_)
            refine wq_aload_n (pc := 68) dD_event_68 rfl rfl ?_
            refine wq_ldc (pc := 69) (z := (-1000001)) dD_event_69 kO_D_69 (by decide) ?_
            refine wq_callV (d' := 2) (pc := 71) (as := [vI (-1000001)]) (rest := []) (lo' := [iR 0, iI ((-1000001)), none]) dD_event_71 mO_D_finding lV_D_70 sh_0 (by decide) cl_10 rfl rfl rfl rfl rfl rfl ?_
            refine sp_D_finding (k := 1) (by decide) (by decide) (by decide) hS ?_
            show Wq 3 0 0 mD_event 74 [iR 0, iI x1, iI x2, iI x3, iI 1] [vI (-1000001)] (sI M 69 1 (wr (gI M 69 1 + 1))) _
            refine wq_ireturn (pc := 74) dD_event_74 trivial ?_
            exact H
        · have H := H.2 c6
          show Wq 3 0 0 mD_event 55 [iR 0, iI x1, iI x2, iI x3, iI 1] [vI 0] M _
          refine wq_if_eq (pc := 55) (tgt := 68) dD_event_55 (by decide) (fun _ => ?_) (fun q => absurd (by decide) q)
          refine wq_aload_n (pc := 68) dD_event_68 rfl rfl ?_
          refine wq_ldc (pc := 69) (z := (-1000001)) dD_event_69 kO_D_69 (by decide) ?_
          refine wq_callV (d' := 2) (pc := 71) (as := [vI (-1000001)]) (rest := []) (lo' := [iR 0, iI ((-1000001)), none]) dD_event_71 mO_D_finding lV_D_70 sh_0 (by decide) cl_10 rfl rfl rfl rfl rfl rfl ?_
          refine sp_D_finding (k := 1) (by decide) (by decide) (by decide) hS ?_
          show Wq 3 0 0 mD_event 74 [iR 0, iI x1, iI x2, iI x3, iI 1] [vI (-1000001)] (sI M 69 1 (wr (gI M 69 1 + 1))) _
          refine wq_ireturn (pc := 74) dD_event_74 trivial ?_
          exact H
      · have H := H.2 c5
        show Wq 3 0 0 mD_event 28 [iR 0, iI x1, iI x2, iI x3, none] [vI 0] M _
        refine wq_if_eq (pc := 28) (tgt := 35) dD_event_28 (by decide) (fun _ => ?_) (fun q => absurd (by decide) q)
        refine wq_iconst (pc := 35) dD_event_35 rfl ?_
        refine wq_istore (pc := 36) (lo' := [iR 0, iI x1, iI x2, iI x3, iI 0]) dD_event_36 rfl rfl ?_
        refine wq_iload (pc := 38) dD_event_38 rfl ?_
        refine wq_if_eq (pc := 40) (tgt := 68) dD_event_40 (by decide) (fun _ => ?_) (fun q => absurd (by decide) q)
        refine wq_aload_n (pc := 68) dD_event_68 rfl rfl ?_
        refine wq_ldc (pc := 69) (z := (-1000001)) dD_event_69 kO_D_69 (by decide) ?_
        refine wq_callV (d' := 2) (pc := 71) (as := [vI (-1000001)]) (rest := []) (lo' := [iR 0, iI ((-1000001)), none]) dD_event_71 mO_D_finding lV_D_70 sh_0 (by decide) cl_10 rfl rfl rfl rfl rfl rfl ?_
        refine sp_D_finding (k := 1) (by decide) (by decide) (by decide) hS ?_
        show Wq 3 0 0 mD_event 74 [iR 0, iI x1, iI x2, iI x3, iI 0] [vI (-1000001)] (sI M 69 1 (wr (gI M 69 1 + 1))) _
        refine wq_ireturn (pc := 74) dD_event_74 trivial ?_
        exact H
    · have H := H.2 c3
      show Wq 3 0 0 mD_event 18 [iR 0, iI x1, iI x2, iI x3, none] [vI 0] M _
      refine wq_if_eq (pc := 18) (tgt := 35) dD_event_18 (by decide) (fun _ => ?_) (fun q => absurd (by decide) q)
      refine wq_iconst (pc := 35) dD_event_35 rfl ?_
      refine wq_istore (pc := 36) (lo' := [iR 0, iI x1, iI x2, iI x3, iI 0]) dD_event_36 rfl rfl ?_
      refine wq_iload (pc := 38) dD_event_38 rfl ?_
      refine wq_if_eq (pc := 40) (tgt := 68) dD_event_40 (by decide) (fun _ => ?_) (fun q => absurd (by decide) q)
      refine wq_aload_n (pc := 68) dD_event_68 rfl rfl ?_
      refine wq_ldc (pc := 69) (z := (-1000001)) dD_event_69 kO_D_69 (by decide) ?_
      refine wq_callV (d' := 2) (pc := 71) (as := [vI (-1000001)]) (rest := []) (lo' := [iR 0, iI ((-1000001)), none]) dD_event_71 mO_D_finding lV_D_70 sh_0 (by decide) cl_10 rfl rfl rfl rfl rfl rfl ?_
      refine sp_D_finding (k := 1) (by decide) (by decide) (by decide) hS ?_
      show Wq 3 0 0 mD_event 74 [iR 0, iI x1, iI x2, iI x3, iI 0] [vI (-1000001)] (sI M 69 1 (wr (gI M 69 1 + 1))) _
      refine wq_ireturn (pc := 74) dD_event_74 trivial ?_
      exact H

set_option maxRecDepth 20000 in
theorem B_D_event_117 {x1 x2 x3 x4 y0 : Int} {M : Mm} {Q : Mm → Option Mv → Prop} (H : Q M (some (vI y0))) : Wq 3 0 0 mD_event 117 [iR 0, iI x1, iI x2, iI x3, iI x4] [vI y0] M Q := by
  refine wq_ireturn (pc := 117) dD_event_117 trivial ?_
  exact H
set_option maxRecDepth 20000 in
theorem B_M_event3_0 {x1 x2 x3 : Int} {M : Mm} {Q : Mm → Option Mv → Prop} (hS : RefOK M) (H : ((x1 < 0 → Q (sI M 83 1 (wr (gI M 83 1 + 1))) (some (vI (-1000001)))) ∧ (¬ x1 < 0 → (((-2147483648 ≤ Int.tdiv x1 10 ∧ Int.tdiv x1 10 < 2147483648) ∧ 0 ≤ gI M 81 2) ∧ ((0 ≤ Int.tdiv x1 10 ∧ Int.tdiv x1 10 < gI M 81 2 → ((-2147483648 ≤ Int.tmod x1 10 ∧ Int.tmod x1 10 < 2147483648) ∧ ((3 < Int.tmod x1 10 → Q (sI M 83 1 (wr (gI M 83 1 + 1))) (some (vI (-1000001)))) ∧ (¬ 3 < Int.tmod x1 10 → ((0 ≤ x2 ∧ x2 ≤ gI M 81 0 → ((1 ≤ x3 ∧ x3 ≤ 30 → ((¬ gI M 81 4 = 20 → (((-2147483648 ≤ 148 + 7 * gI M 81 4 ∧ 148 + 7 * gI M 81 4 < 2147483648) ∧ (0 ≤ 148 + 7 * gI M 81 4 ∧ 148 + 7 * gI M 81 4 < 1993) ∧ (0 ≤ 149 + 7 * gI M 81 4 ∧ 149 + 7 * gI M 81 4 < 1993) ∧ (0 ≤ 150 + 7 * gI M 81 4 ∧ 150 + 7 * gI M 81 4 < 1993) ∧ (0 ≤ 151 + 7 * gI M 81 4 ∧ 151 + 7 * gI M 81 4 < 1993) ∧ (0 ≤ 152 + 7 * gI M 81 4 ∧ 152 + 7 * gI M 81 4 < 1993) ∧ 0 ≠ 152 + 7 * gI M 81 4 ∧ 0 ≠ 151 + 7 * gI M 81 4 ∧ 0 ≠ 150 + 7 * gI M 81 4 ∧ 0 ≠ 149 + 7 * gI M 81 4 ∧ 0 ≠ 148 + 7 * gI M 81 4 ∧ (0 ≤ 153 + 7 * gI M 81 4 ∧ 153 + 7 * gI M 81 4 < 1993) ∧ (0 ≤ 154 + 7 * gI M 81 4 ∧ 154 + 7 * gI M 81 4 < 1993) ∧ 4 ≠ 154 + 7 * gI M 81 4 ∧ 4 ≠ 153 + 7 * gI M 81 4 ∧ 4 ≠ 152 + 7 * gI M 81 4 ∧ 4 ≠ 151 + 7 * gI M 81 4 ∧ 4 ≠ 150 + 7 * gI M 81 4 ∧ 4 ≠ 149 + 7 * gI M 81 4 ∧ 4 ≠ 148 + 7 * gI M 81 4 ∧ (-2147483648 ≤ gI M 81 4 + 1 ∧ gI M 81 4 + 1 < 2147483648)) ∧ Q (sI (sI (sI (sI (sI (sI (sI (sI M 81 (148 + 7 * gI M 81 4) (Int.tdiv x1 10)) 81 (149 + 7 * gI M 81 4) (Int.tmod x1 10)) 81 (150 + 7 * gI M 81 4) x2) 81 (151 + 7 * gI M 81 4) x3) 81 (152 + 7 * gI M 81 4) (-1)) 81 (153 + 7 * gI M 81 4) (gI M 81 0)) 81 (154 + 7 * gI M 81 4) (-1)) 81 4 (gI M 81 4 + 1)) (some (vI (gI M 81 4))))) ∧ (gI M 81 4 = 20 → Q (sI M 83 4 (wr (gI M 83 4 + 1))) (some (vI (-1000004)))))) ∧ (¬ (1 ≤ x3 ∧ x3 ≤ 30) → Q (sI M 83 1 (wr (gI M 83 1 + 1))) (some (vI (-1000001)))))) ∧ (¬ (0 ≤ x2 ∧ x2 ≤ gI M 81 0) → Q (sI M 83 1 (wr (gI M 83 1 + 1))) (some (vI (-1000001))))))))) ∧ (¬ (0 ≤ Int.tdiv x1 10 ∧ Int.tdiv x1 10 < gI M 81 2) → Q (sI M 83 1 (wr (gI M 83 1 + 1))) (some (vI (-1000001))))))))) : Wq 3 0 0 mM_event3 0 [iR 80, iI x1, iI x2, iI x3, none, none] [] M Q := by
  refine wq_iload_n (pc := 0) dM_event3_0 rfl rfl ?_
  refine wq_if_lt (pc := 1) (tgt := 52) dM_event3_1 (by decide) (fun c1 => ?_) (fun c1 => ?_)
  · have H := H.1 c1
    refine wq_aload_n (pc := 52) dM_event3_52 rfl rfl ?_
    refine wq_ldc (pc := 53) (z := (-1000001)) dM_event3_53 kO_M_78 (by decide) ?_
    refine wq_callV (d' := 1) (pc := 55) (as := [vI (-1000001)]) (rest := []) (lo' := [iR 80, iI ((-1000001))]) dM_event3_55 mO_M_finding lV_M_79 sh_80 (by decide) cl_11 rfl rfl rfl rfl rfl rfl ?_
    refine sp_M_finding (k := 1) (by decide) (by decide) (by decide) hS ?_
    show Wq 3 0 0 mM_event3 58 [iR 80, iI x1, iI x2, iI x3, none, none] [vI (-1000001)] (sI M 83 1 (wr (gI M 83 1 + 1))) _
    refine wq_ireturn (pc := 58) dM_event3_58 trivial ?_
    exact H
  · have H := H.2 c1
    obtain ⟨⟨s2, s3⟩, H⟩ := H
    refine wq_aload_n (pc := 4) dM_event3_4 rfl rfl ?_
    refine wq_iload_n (pc := 5) dM_event3_5 rfl rfl ?_
    refine wq_bipush (pc := 6) dM_event3_6 rfl ?_
    refine wq_idiv (pc := 8) dM_event3_8 (by decide) ?_
    refine wq_iconst (pc := 9) dM_event3_9 rfl ?_
    refine wq_re2 (x := (wr (Int.tdiv x1 10))) (y := (Int.tdiv x1 10)) (Eq.trans (wr_eq (by omega) (by omega)) (by omega)) ?_
    refine wq_callV (d' := 2) (pc := 10) (as := [vI (Int.tdiv x1 10), vI 2]) (rest := []) (lo' := [iR 80, iI (Int.tdiv x1 10), iI 2]) dM_event3_10 mO_M_is lV_M_84 sh_80 (by decide) cl_11 rfl rfl rfl rfl rfl rfl ?_
    refine sp_M_is (c := 2) (by decide) hS s3 (fun c4 => ?_) (fun c4 => ?_)
    · have H := H.1 c4
      show Wq 3 0 0 mM_event3 13 [iR 80, iI x1, iI x2, iI x3, none, none] [vI 1] M _
      obtain ⟨s5, H⟩ := H
      refine wq_if_eq (pc := 13) (tgt := 52) dM_event3_13 (by decide) (fun q => absurd q (by decide)) (fun _ => ?_)
      refine wq_iload_n (pc := 16) dM_event3_16 rfl rfl ?_
      refine wq_bipush (pc := 17) dM_event3_17 rfl ?_
      refine wq_irem (pc := 19) dM_event3_19 (by decide) ?_
      refine wq_iconst (pc := 20) dM_event3_20 rfl ?_
      refine wq_re2 (x := (wr (Int.tmod x1 10))) (y := (Int.tmod x1 10)) (Eq.trans (wr_eq (by omega) (by omega)) (by omega)) ?_
      refine wq_icmp_gt (pc := 21) (tgt := 52) dM_event3_21 (by decide) (fun c6 => ?_) (fun c6 => ?_)
      · have H := H.1 c6
        refine wq_aload_n (pc := 52) dM_event3_52 rfl rfl ?_
        refine wq_ldc (pc := 53) (z := (-1000001)) dM_event3_53 kO_M_78 (by decide) ?_
        refine wq_callV (d' := 1) (pc := 55) (as := [vI (-1000001)]) (rest := []) (lo' := [iR 80, iI ((-1000001))]) dM_event3_55 mO_M_finding lV_M_79 sh_80 (by decide) cl_11 rfl rfl rfl rfl rfl rfl ?_
        refine sp_M_finding (k := 1) (by decide) (by decide) (by decide) hS ?_
        show Wq 3 0 0 mM_event3 58 [iR 80, iI x1, iI x2, iI x3, none, none] [vI (-1000001)] (sI M 83 1 (wr (gI M 83 1 + 1))) _
        refine wq_ireturn (pc := 58) dM_event3_58 trivial ?_
        exact H
      · have H := H.2 c6
        refine wq_iload_n (pc := 24) dM_event3_24 rfl rfl ?_
        refine wq_i2l (pc := 25) dM_event3_25 ?_
        refine wq_lconst (pc := 26) (x := 0) dM_event3_26 rfl rfl ?_
        refine wq_aload_n (pc := 27) dM_event3_27 rfl rfl ?_
        refine wq_getR (pc := 28) (z := 0) (b := 81) dM_event3_28 fO_M_9 sh_80 rfl rfl (rf_80_0 hS) ?_
        refine wq_iconst (pc := 31) dM_event3_31 rfl ?_
        refine wq_iald (pc := 32) dM_event3_32 sh_81 (by decide) (by decide) ?_
        refine wq_i2l (pc := 33) dM_event3_33 ?_
        refine wq_callS (d' := 1) (pc := 34) (as := [vL x2, vL 0, vL (gI M 81 0)]) (rest := []) (lo' := [iL x2, none, iL 0, none, iL (gI M 81 0), none]) dM_event3_34 mO_M_within lS_M_68 rfl rfl rfl rfl rfl rfl ?_
        refine sp_M_within (fun c7 => ?_) (fun c7 => ?_)
        · have H := H.1 c7
          show Wq 3 0 0 mM_event3 37 [iR 80, iI x1, iI x2, iI x3, none, none] [vI 1] M _
          refine wq_if_eq (pc := 37) (tgt := 52) dM_event3_37 (by decide) (fun q => absurd q (by decide)) (fun _ => ?_)
          refine wq_iload_n (pc := 40) dM_event3_40 rfl rfl ?_
          refine wq_i2l (pc := 41) dM_event3_41 ?_
          refine wq_lconst (pc := 42) (x := 1) dM_event3_42 rfl rfl ?_
          refine wq_ldc2 (pc := 43) (z := 30) dM_event3_43 kO_M_121 (by decide) ?_
          refine wq_callS (d' := 1) (pc := 46) (as := [vL x3, vL 1, vL 30]) (rest := []) (lo' := [iL x3, none, iL 1, none, iL 30, none]) dM_event3_46 mO_M_within lS_M_68 rfl rfl rfl rfl rfl rfl ?_
          refine sp_M_within (fun c8 => ?_) (fun c8 => ?_)
          · have H := H.1 c8
            show Wq 3 0 0 mM_event3 49 [iR 80, iI x1, iI x2, iI x3, none, none] [vI 1] M _
            refine wq_if_ne (pc := 49) (tgt := 59) dM_event3_49 (by decide) (fun _ => ?_) (fun q => absurd q (by decide))
            refine wq_aload_n (pc := 59) dM_event3_59 rfl rfl ?_
            refine wq_getR (pc := 60) (z := 0) (b := 81) dM_event3_60 fO_M_9 sh_80 rfl rfl (rf_80_0 hS) ?_
            refine wq_iconst (pc := 63) dM_event3_63 rfl ?_
            refine wq_iald (pc := 64) dM_event3_64 sh_81 (by decide) (by decide) ?_
            refine wq_istore (pc := 65) (lo' := [iR 80, iI x1, iI x2, iI x3, iI (gI M 81 4), none]) dM_event3_65 rfl rfl ?_
            refine wq_iload (pc := 67) dM_event3_67 rfl ?_
            refine wq_bipush (pc := 69) dM_event3_69 rfl ?_
            refine wq_icmp_ne (pc := 71) (tgt := 81) dM_event3_71 (by decide) (fun c9 => ?_) (fun c9 => ?_)
            · have H := H.1 c9
              obtain ⟨⟨s10, s11, s12, s13, s14, s15, s16, s17, s18, s19, s20, s21, s22, s23, s24, s25, s26, s27, s28, s29, s30⟩, H⟩ := H
              refine wq_sipush (pc := 81) dM_event3_81 rfl ?_
              refine wq_bipush (pc := 84) dM_event3_84 rfl ?_
              refine wq_iload (pc := 86) dM_event3_86 rfl ?_
              refine wq_imul (pc := 88) dM_event3_88 ?_
              refine wq_iadd (pc := 89) dM_event3_89 ?_
              refine wq_re (x := (wr (148 + wr (7 * gI M 81 4)))) (y := (148 + 7 * gI M 81 4)) (by (try simp only [wr_al, wr_ar, wr_sl, wr_sr, wr_ml, wr_mr, wr_nn, wr_ww]); exact Eq.trans (wr_eq (by omega) (by omega)) (by omega)) ?_
              refine wq_istore (pc := 90) (lo' := [iR 80, iI x1, iI x2, iI x3, iI (gI M 81 4), iI (148 + 7 * gI M 81 4)]) dM_event3_90 rfl rfl ?_
              refine wq_aload_n (pc := 92) dM_event3_92 rfl rfl ?_
              refine wq_getR (pc := 93) (z := 0) (b := 81) dM_event3_93 fO_M_9 sh_80 rfl rfl (rf_80_0 hS) ?_
              refine wq_iload (pc := 96) dM_event3_96 rfl ?_
              refine wq_iconst (pc := 98) dM_event3_98 rfl ?_
              refine wq_iadd (pc := 99) dM_event3_99 ?_
              refine wq_iload_n (pc := 100) dM_event3_100 rfl rfl ?_
              refine wq_bipush (pc := 101) dM_event3_101 rfl ?_
              refine wq_idiv (pc := 103) dM_event3_103 (by decide) ?_
              refine wq_re (x := (wr (Int.tdiv x1 10))) (y := (Int.tdiv x1 10)) (Eq.trans (wr_eq (by omega) (by omega)) (by omega)) ?_
              refine wq_re2 (x := (wr (148 + 7 * gI M 81 4 + 0))) (y := (148 + 7 * gI M 81 4)) (Eq.trans (wr_eq (by omega) (by omega)) (by omega)) ?_
              refine wq_iast (pc := 104) dM_event3_104 sh_81 (by decide) s11.1 s11.2 ?_
              refine wq_aload_n (pc := 105) dM_event3_105 rfl rfl ?_
              refine wq_getR (pc := 106) (z := 0) (b := 81) dM_event3_106 fO_M_9 sh_80 rfl rfl (rf_80_0 hS) ?_
              refine wq_iload (pc := 109) dM_event3_109 rfl ?_
              refine wq_iconst (pc := 111) dM_event3_111 rfl ?_
              refine wq_iadd (pc := 112) dM_event3_112 ?_
              refine wq_iload_n (pc := 113) dM_event3_113 rfl rfl ?_
              refine wq_bipush (pc := 114) dM_event3_114 rfl ?_
              refine wq_irem (pc := 116) dM_event3_116 (by decide) ?_
              refine wq_re (x := (wr (Int.tmod x1 10))) (y := (Int.tmod x1 10)) (Eq.trans (wr_eq (by omega) (by omega)) (by omega)) ?_
              refine wq_re2 (x := (wr (148 + 7 * gI M 81 4 + 1))) (y := (149 + 7 * gI M 81 4)) (Eq.trans (wr_eq (by omega) (by omega)) (by omega)) ?_
              refine wq_iast (pc := 117) dM_event3_117 sh_81 (by decide) s12.1 s12.2 ?_
              refine wq_aload_n (pc := 118) dM_event3_118 rfl rfl ?_
              refine wq_getR (pc := 119) (z := 0) (b := 81) dM_event3_119 fO_M_9 sh_80 rfl rfl (rf_80_0 hS) ?_
              refine wq_iload (pc := 122) dM_event3_122 rfl ?_
              refine wq_iconst (pc := 124) dM_event3_124 rfl ?_
              refine wq_iadd (pc := 125) dM_event3_125 ?_
              refine wq_iload_n (pc := 126) dM_event3_126 rfl rfl ?_
              refine wq_re2 (x := (wr (148 + 7 * gI M 81 4 + 2))) (y := (150 + 7 * gI M 81 4)) (Eq.trans (wr_eq (by omega) (by omega)) (by omega)) ?_
              refine wq_iast (pc := 127) dM_event3_127 sh_81 (by decide) s13.1 s13.2 ?_
              refine wq_aload_n (pc := 128) dM_event3_128 rfl rfl ?_
              refine wq_getR (pc := 129) (z := 0) (b := 81) dM_event3_129 fO_M_9 sh_80 rfl rfl (rf_80_0 hS) ?_
              refine wq_iload (pc := 132) dM_event3_132 rfl ?_
              refine wq_iconst (pc := 134) dM_event3_134 rfl ?_
              refine wq_iadd (pc := 135) dM_event3_135 ?_
              refine wq_iload_n (pc := 136) dM_event3_136 rfl rfl ?_
              refine wq_re2 (x := (wr (148 + 7 * gI M 81 4 + 3))) (y := (151 + 7 * gI M 81 4)) (Eq.trans (wr_eq (by omega) (by omega)) (by omega)) ?_
              refine wq_iast (pc := 137) dM_event3_137 sh_81 (by decide) s14.1 s14.2 ?_
              refine wq_aload_n (pc := 138) dM_event3_138 rfl rfl ?_
              refine wq_getR (pc := 139) (z := 0) (b := 81) dM_event3_139 fO_M_9 sh_80 rfl rfl (rf_80_0 hS) ?_
              refine wq_iload (pc := 142) dM_event3_142 rfl ?_
              refine wq_iconst (pc := 144) dM_event3_144 rfl ?_
              refine wq_iadd (pc := 145) dM_event3_145 ?_
              refine wq_iconst (pc := 146) dM_event3_146 rfl ?_
              refine wq_re2 (x := (wr (148 + 7 * gI M 81 4 + 4))) (y := (152 + 7 * gI M 81 4)) (Eq.trans (wr_eq (by omega) (by omega)) (by omega)) ?_
              refine wq_iast (pc := 147) dM_event3_147 sh_81 (by decide) s15.1 s15.2 ?_
              refine wq_aload_n (pc := 148) dM_event3_148 rfl rfl ?_
              refine wq_getR (pc := 149) (z := 0) (b := 81) dM_event3_149 fO_M_9 sh_80 rfl rfl (rf_80_0 hS) ?_
              refine wq_iload (pc := 152) dM_event3_152 rfl ?_
              refine wq_iconst (pc := 154) dM_event3_154 rfl ?_
              refine wq_iadd (pc := 155) dM_event3_155 ?_
              refine wq_aload_n (pc := 156) dM_event3_156 rfl rfl ?_
              refine wq_getR (pc := 157) (z := 0) (b := 81) dM_event3_157 fO_M_9 sh_80 rfl rfl (rf_80_0 hS) ?_
              refine wq_iconst (pc := 160) dM_event3_160 rfl ?_
              refine wq_iald (pc := 161) dM_event3_161 sh_81 (by decide) (by decide) ?_
              refine wq_re (x := (gI (sI (sI (sI (sI (sI M 81 (148 + 7 * gI M 81 4) (Int.tdiv x1 10)) 81 (149 + 7 * gI M 81 4) (Int.tmod x1 10)) 81 (150 + 7 * gI M 81 4) x2) 81 (151 + 7 * gI M 81 4) x3) 81 (152 + 7 * gI M 81 4) (-1)) 81 0)) (y := (gI M 81 0)) (Eq.trans (gI_n (Or.inr s16)) (Eq.trans (gI_n (Or.inr s17)) (Eq.trans (gI_n (Or.inr s18)) (Eq.trans (gI_n (Or.inr s19)) (gI_n (Or.inr s20)))))) ?_
              refine wq_re2 (x := (wr (148 + 7 * gI M 81 4 + 5))) (y := (153 + 7 * gI M 81 4)) (Eq.trans (wr_eq (by omega) (by omega)) (by omega)) ?_
              refine wq_iast (pc := 162) dM_event3_162 sh_81 (by decide) s21.1 s21.2 ?_
              refine wq_aload_n (pc := 163) dM_event3_163 rfl rfl ?_
              refine wq_getR (pc := 164) (z := 0) (b := 81) dM_event3_164 fO_M_9 sh_80 rfl rfl (rf_80_0 hS) ?_
              refine wq_iload (pc := 167) dM_event3_167 rfl ?_
              refine wq_bipush (pc := 169) dM_event3_169 rfl ?_
              refine wq_iadd (pc := 171) dM_event3_171 ?_
              refine wq_iconst (pc := 172) dM_event3_172 rfl ?_
              refine wq_re2 (x := (wr (148 + 7 * gI M 81 4 + 6))) (y := (154 + 7 * gI M 81 4)) (Eq.trans (wr_eq (by omega) (by omega)) (by omega)) ?_
              refine wq_iast (pc := 173) dM_event3_173 sh_81 (by decide) s22.1 s22.2 ?_
              refine wq_aload_n (pc := 174) dM_event3_174 rfl rfl ?_
              refine wq_getR (pc := 175) (z := 0) (b := 81) dM_event3_175 fO_M_9 sh_80 rfl rfl (rf_80_0 hS) ?_
              refine wq_iconst (pc := 178) dM_event3_178 rfl ?_
              refine wq_dup2 (pc := 179) dM_event3_179 rfl rfl ?_
              refine wq_iald (pc := 180) dM_event3_180 sh_81 (by decide) (by decide) ?_
              refine wq_re (x := (gI (sI (sI (sI (sI (sI (sI (sI M 81 (148 + 7 * gI M 81 4) (Int.tdiv x1 10)) 81 (149 + 7 * gI M 81 4) (Int.tmod x1 10)) 81 (150 + 7 * gI M 81 4) x2) 81 (151 + 7 * gI M 81 4) x3) 81 (152 + 7 * gI M 81 4) (-1)) 81 (153 + 7 * gI M 81 4) (gI M 81 0)) 81 (154 + 7 * gI M 81 4) (-1)) 81 4)) (y := (gI M 81 4)) (Eq.trans (gI_n (Or.inr s23)) (Eq.trans (gI_n (Or.inr s24)) (Eq.trans (gI_n (Or.inr s25)) (Eq.trans (gI_n (Or.inr s26)) (Eq.trans (gI_n (Or.inr s27)) (Eq.trans (gI_n (Or.inr s28)) (gI_n (Or.inr s29)))))))) ?_
              refine wq_iconst (pc := 181) dM_event3_181 rfl ?_
              refine wq_iadd (pc := 182) dM_event3_182 ?_
              refine wq_re (x := (wr (gI M 81 4 + 1))) (y := (gI M 81 4 + 1)) (Eq.trans (wr_eq (by omega) (by omega)) (by omega)) ?_
              refine wq_iast (pc := 183) dM_event3_183 sh_81 (by decide) (by decide) (by decide) ?_
              refine wq_iload (pc := 184) dM_event3_184 rfl ?_
              refine wq_ireturn (pc := 186) dM_event3_186 trivial ?_
              exact H
            · have H := H.2 c9
              refine wq_aload_n (pc := 74) dM_event3_74 rfl rfl ?_
              refine wq_ldc (pc := 75) (z := (-1000004)) dM_event3_75 kO_M_83 (by decide) ?_
              refine wq_callV (d' := 1) (pc := 77) (as := [vI (-1000004)]) (rest := []) (lo' := [iR 80, iI ((-1000004))]) dM_event3_77 mO_M_finding lV_M_79 sh_80 (by decide) cl_11 rfl rfl rfl rfl rfl rfl ?_
              refine sp_M_finding (k := 4) (by decide) (by decide) (by decide) hS ?_
              show Wq 3 0 0 mM_event3 80 [iR 80, iI x1, iI x2, iI x3, iI (gI M 81 4), none] [vI (-1000004)] (sI M 83 4 (wr (gI M 83 4 + 1))) _
              refine wq_ireturn (pc := 80) dM_event3_80 trivial ?_
              exact H
          · have H := H.2 c8
            show Wq 3 0 0 mM_event3 49 [iR 80, iI x1, iI x2, iI x3, none, none] [vI 0] M _
            refine wq_if_ne (pc := 49) (tgt := 59) dM_event3_49 (by decide) (fun q => absurd q (by decide)) (fun _ => ?_)
            refine wq_aload_n (pc := 52) dM_event3_52 rfl rfl ?_
            refine wq_ldc (pc := 53) (z := (-1000001)) dM_event3_53 kO_M_78 (by decide) ?_
            refine wq_callV (d' := 1) (pc := 55) (as := [vI (-1000001)]) (rest := []) (lo' := [iR 80, iI ((-1000001))]) dM_event3_55 mO_M_finding lV_M_79 sh_80 (by decide) cl_11 rfl rfl rfl rfl rfl rfl ?_
            refine sp_M_finding (k := 1) (by decide) (by decide) (by decide) hS ?_
            show Wq 3 0 0 mM_event3 58 [iR 80, iI x1, iI x2, iI x3, none, none] [vI (-1000001)] (sI M 83 1 (wr (gI M 83 1 + 1))) _
            refine wq_ireturn (pc := 58) dM_event3_58 trivial ?_
            exact H
        · have H := H.2 c7
          show Wq 3 0 0 mM_event3 37 [iR 80, iI x1, iI x2, iI x3, none, none] [vI 0] M _
          refine wq_if_eq (pc := 37) (tgt := 52) dM_event3_37 (by decide) (fun _ => ?_) (fun q => absurd (by decide) q)
          refine wq_aload_n (pc := 52) dM_event3_52 rfl rfl ?_
          refine wq_ldc (pc := 53) (z := (-1000001)) dM_event3_53 kO_M_78 (by decide) ?_
          refine wq_callV (d' := 1) (pc := 55) (as := [vI (-1000001)]) (rest := []) (lo' := [iR 80, iI ((-1000001))]) dM_event3_55 mO_M_finding lV_M_79 sh_80 (by decide) cl_11 rfl rfl rfl rfl rfl rfl ?_
          refine sp_M_finding (k := 1) (by decide) (by decide) (by decide) hS ?_
          show Wq 3 0 0 mM_event3 58 [iR 80, iI x1, iI x2, iI x3, none, none] [vI (-1000001)] (sI M 83 1 (wr (gI M 83 1 + 1))) _
          refine wq_ireturn (pc := 58) dM_event3_58 trivial ?_
          exact H
    · have H := H.2 c4
      show Wq 3 0 0 mM_event3 13 [iR 80, iI x1, iI x2, iI x3, none, none] [vI 0] M _
      refine wq_if_eq (pc := 13) (tgt := 52) dM_event3_13 (by decide) (fun _ => ?_) (fun q => absurd (by decide) q)
      refine wq_aload_n (pc := 52) dM_event3_52 rfl rfl ?_
      refine wq_ldc (pc := 53) (z := (-1000001)) dM_event3_53 kO_M_78 (by decide) ?_
      refine wq_callV (d' := 1) (pc := 55) (as := [vI (-1000001)]) (rest := []) (lo' := [iR 80, iI ((-1000001))]) dM_event3_55 mO_M_finding lV_M_79 sh_80 (by decide) cl_11 rfl rfl rfl rfl rfl rfl ?_
      refine sp_M_finding (k := 1) (by decide) (by decide) (by decide) hS ?_
      show Wq 3 0 0 mM_event3 58 [iR 80, iI x1, iI x2, iI x3, none, none] [vI (-1000001)] (sI M 83 1 (wr (gI M 83 1 + 1))) _
      refine wq_ireturn (pc := 58) dM_event3_58 trivial ?_
      exact H
set_option maxRecDepth 20000 in
theorem B_E_add_0 {x1 x2 x3 x4 : Int} {M : Mm} {Q : Mm → Option Mv → Prop} (hS : RefOK M) (H : (((-2147483648 ≤ Int.tdiv x1 10 ∧ Int.tdiv x1 10 < 2147483648) ∧ (0 ≤ gI M 12 7 ∧ gI M 12 7 < 20) ∧ (-2147483648 ≤ Int.tmod x1 10 ∧ Int.tmod x1 10 < 2147483648) ∧ (-2147483648 ≤ gI M 12 7 + 1 ∧ gI M 12 7 + 1 < 2147483648) ∧ (-2147483648 ≤ gI M 12 7 ∧ gI M 12 7 < 2147483648)) ∧ Q (sI (sI (sI (sI (sI (sI (sI (sI M 13 (gI M 12 7) (Int.tdiv x1 10)) 14 (gI M 12 7) (Int.tmod x1 10)) 15 (gI M 12 7) x2) 16 (gI M 12 7) x3) 17 (gI M 12 7) (-1)) 18 (gI M 12 7) x4) 19 (gI M 12 7) (-1)) 12 7 (gI M 12 7 + 1)) (some (vI (gI M 12 7))))) : Wq 1 0 0 mE_add 0 [iR 12, iI x1, iI x2, iI x3, iI x4] [] M Q := by
  obtain ⟨⟨s1, s2, s3, s4, s5⟩, H⟩ := H
  refine wq_aload_n (pc := 0) dE_add_0 rfl rfl ?_
  refine wq_getR (pc := 1) (z := 0) (b := 13) dE_add_1 fO_E_9 sh_12 rfl rfl (rf_12_0 hS) ?_
  refine wq_aload_n (pc := 4) dE_add_4 rfl rfl ?_
  refine wq_getI (pc := 5) (z := 7) dE_add_5 fO_E_33 sh_12 rfl rfl ?_
  refine wq_iload_n (pc := 8) dE_add_8 rfl rfl ?_
  refine wq_bipush (pc := 9) dE_add_9 rfl ?_
  refine wq_idiv (pc := 11) dE_add_11 (by decide) ?_
  refine wq_re (x := (wr (Int.tdiv x1 10))) (y := (Int.tdiv x1 10)) (Eq.trans (wr_eq (by omega) (by omega)) (by omega)) ?_
  refine wq_iast (pc := 12) dE_add_12 sh_13 (by decide) s2.1 s2.2 ?_
  refine wq_aload_n (pc := 13) dE_add_13 rfl rfl ?_
  refine wq_getR (pc := 14) (z := 1) (b := 14) dE_add_14 fO_E_15 sh_12 rfl rfl (rf_12_1 hS) ?_
  refine wq_aload_n (pc := 17) dE_add_17 rfl rfl ?_
  refine wq_getI (pc := 18) (z := 7) dE_add_18 fO_E_33 sh_12 rfl rfl ?_
  refine wq_re (x := (gI (sI M 13 (gI M 12 7) (Int.tdiv x1 10)) 12 7)) (y := (gI M 12 7)) rfl ?_
  refine wq_iload_n (pc := 21) dE_add_21 rfl rfl ?_
  refine wq_bipush (pc := 22) dE_add_22 rfl ?_
  refine wq_irem (pc := 24) dE_add_24 (by decide) ?_
  refine wq_re (x := (wr (Int.tmod x1 10))) (y := (Int.tmod x1 10)) (Eq.trans (wr_eq (by omega) (by omega)) (by omega)) ?_
  refine wq_iast (pc := 25) dE_add_25 sh_14 (by decide) s2.1 s2.2 ?_
  refine wq_aload_n (pc := 26) dE_add_26 rfl rfl ?_
  refine wq_getR (pc := 27) (z := 2) (b := 15) dE_add_27 fO_E_18 sh_12 rfl rfl (rf_12_2 hS) ?_
  refine wq_aload_n (pc := 30) dE_add_30 rfl rfl ?_
  refine wq_getI (pc := 31) (z := 7) dE_add_31 fO_E_33 sh_12 rfl rfl ?_
  refine wq_re (x := (gI (sI (sI M 13 (gI M 12 7) (Int.tdiv x1 10)) 14 (gI M 12 7) (Int.tmod x1 10)) 12 7)) (y := (gI M 12 7)) rfl ?_
  refine wq_iload_n (pc := 34) dE_add_34 rfl rfl ?_
  refine wq_iast (pc := 35) dE_add_35 sh_15 (by decide) s2.1 s2.2 ?_
  refine wq_aload_n (pc := 36) dE_add_36 rfl rfl ?_
  refine wq_getR (pc := 37) (z := 3) (b := 16) dE_add_37 fO_E_21 sh_12 rfl rfl (rf_12_3 hS) ?_
  refine wq_aload_n (pc := 40) dE_add_40 rfl rfl ?_
  refine wq_getI (pc := 41) (z := 7) dE_add_41 fO_E_33 sh_12 rfl rfl ?_
  refine wq_re (x := (gI (sI (sI (sI M 13 (gI M 12 7) (Int.tdiv x1 10)) 14 (gI M 12 7) (Int.tmod x1 10)) 15 (gI M 12 7) x2) 12 7)) (y := (gI M 12 7)) rfl ?_
  refine wq_iload_n (pc := 44) dE_add_44 rfl rfl ?_
  refine wq_iast (pc := 45) dE_add_45 sh_16 (by decide) s2.1 s2.2 ?_
  refine wq_aload_n (pc := 46) dE_add_46 rfl rfl ?_
  refine wq_getR (pc := 47) (z := 4) (b := 17) dE_add_47 fO_E_24 sh_12 rfl rfl (rf_12_4 hS) ?_
  refine wq_aload_n (pc := 50) dE_add_50 rfl rfl ?_
  refine wq_getI (pc := 51) (z := 7) dE_add_51 fO_E_33 sh_12 rfl rfl ?_
  refine wq_re (x := (gI (sI (sI (sI (sI M 13 (gI M 12 7) (Int.tdiv x1 10)) 14 (gI M 12 7) (Int.tmod x1 10)) 15 (gI M 12 7) x2) 16 (gI M 12 7) x3) 12 7)) (y := (gI M 12 7)) rfl ?_
  refine wq_iconst (pc := 54) dE_add_54 rfl ?_
  refine wq_iast (pc := 55) dE_add_55 sh_17 (by decide) s2.1 s2.2 ?_
  refine wq_aload_n (pc := 56) dE_add_56 rfl rfl ?_
  refine wq_getR (pc := 57) (z := 5) (b := 18) dE_add_57 fO_E_27 sh_12 rfl rfl (rf_12_5 hS) ?_
  refine wq_aload_n (pc := 60) dE_add_60 rfl rfl ?_
  refine wq_getI (pc := 61) (z := 7) dE_add_61 fO_E_33 sh_12 rfl rfl ?_
  refine wq_re (x := (gI (sI (sI (sI (sI (sI M 13 (gI M 12 7) (Int.tdiv x1 10)) 14 (gI M 12 7) (Int.tmod x1 10)) 15 (gI M 12 7) x2) 16 (gI M 12 7) x3) 17 (gI M 12 7) (-1)) 12 7)) (y := (gI M 12 7)) rfl ?_
  refine wq_iload (pc := 64) dE_add_64 rfl ?_
  refine wq_iast (pc := 66) dE_add_66 sh_18 (by decide) s2.1 s2.2 ?_
  refine wq_aload_n (pc := 67) dE_add_67 rfl rfl ?_
  refine wq_getR (pc := 68) (z := 6) (b := 19) dE_add_68 fO_E_30 sh_12 rfl rfl (rf_12_6 hS) ?_
  refine wq_aload_n (pc := 71) dE_add_71 rfl rfl ?_
  refine wq_getI (pc := 72) (z := 7) dE_add_72 fO_E_33 sh_12 rfl rfl ?_
  refine wq_re (x := (gI (sI (sI (sI (sI (sI (sI M 13 (gI M 12 7) (Int.tdiv x1 10)) 14 (gI M 12 7) (Int.tmod x1 10)) 15 (gI M 12 7) x2) 16 (gI M 12 7) x3) 17 (gI M 12 7) (-1)) 18 (gI M 12 7) x4) 12 7)) (y := (gI M 12 7)) rfl ?_
  refine wq_iconst (pc := 75) dE_add_75 rfl ?_
  refine wq_iast (pc := 76) dE_add_76 sh_19 (by decide) s2.1 s2.2 ?_
  refine wq_aload_n (pc := 77) dE_add_77 rfl rfl ?_
  refine wq_dup (pc := 78) dE_add_78 rfl ?_
  refine wq_getI (pc := 79) (z := 7) dE_add_79 fO_E_33 sh_12 rfl rfl ?_
  refine wq_re (x := (gI (sI (sI (sI (sI (sI (sI (sI M 13 (gI M 12 7) (Int.tdiv x1 10)) 14 (gI M 12 7) (Int.tmod x1 10)) 15 (gI M 12 7) x2) 16 (gI M 12 7) x3) 17 (gI M 12 7) (-1)) 18 (gI M 12 7) x4) 19 (gI M 12 7) (-1)) 12 7)) (y := (gI M 12 7)) rfl ?_
  refine wq_iconst (pc := 82) dE_add_82 rfl ?_
  refine wq_iadd (pc := 83) dE_add_83 ?_
  refine wq_re (x := (wr (gI M 12 7 + 1))) (y := (gI M 12 7 + 1)) (Eq.trans (wr_eq (by omega) (by omega)) (by omega)) ?_
  refine wq_putI (pc := 84) (z := 7) dE_add_84 fW_E_33 sh_12 rfl rfl ?_
  refine wq_aload_n (pc := 87) dE_add_87 rfl rfl ?_
  refine wq_getI (pc := 88) (z := 7) dE_add_88 fO_E_33 sh_12 rfl rfl ?_
  refine wq_re (x := (gI (sI (sI (sI (sI (sI (sI (sI (sI M 13 (gI M 12 7) (Int.tdiv x1 10)) 14 (gI M 12 7) (Int.tmod x1 10)) 15 (gI M 12 7) x2) 16 (gI M 12 7) x3) 17 (gI M 12 7) (-1)) 18 (gI M 12 7) x4) 19 (gI M 12 7) (-1)) 12 7 (gI M 12 7 + 1)) 12 7)) (y := (gI M 12 7 + 1)) rfl ?_
  refine wq_iconst (pc := 91) dE_add_91 rfl ?_
  refine wq_isub (pc := 92) dE_add_92 ?_
  refine wq_re (x := (wr (gI M 12 7 + 1 - 1))) (y := (gI M 12 7)) (Eq.trans (wr_eq (by omega) (by omega)) (by omega)) ?_
  refine wq_ireturn (pc := 93) dE_add_93 trivial ?_
  exact H
set_option maxRecDepth 20000 in
theorem B_D_notice_0 {x1 x2 : Int} {M : Mm} {Q : Mm → Option Mv → Prop} (hS : RefOK M) (H : ((0 ≤ x1 ∧ x1 < gI M 12 7 → ((0 ≤ x1 ∧ x1 < 20) ∧ ((gI M 15 x1 ≤ x2 ∧ x2 ≤ gI M 1 5 → ((gI M 17 x1 < 0 → Q (sI M 17 x1 x2) (some (vI 1))) ∧ (¬ gI M 17 x1 < 0 → Q (sI M 69 3 (wr (gI M 69 3 + 1))) (some (vI (-1000003)))))) ∧ (¬ (gI M 15 x1 ≤ x2 ∧ x2 ≤ gI M 1 5) → Q (sI M 69 1 (wr (gI M 69 1 + 1))) (some (vI (-1000001))))))) ∧ (¬ (0 ≤ x1 ∧ x1 < gI M 12 7) → Q (sI M 69 1 (wr (gI M 69 1 + 1))) (some (vI (-1000001)))))) : Wq 3 0 0 mD_notice 0 [iR 0, iI x1, iI x2, none] [] M Q := by
  refine wq_aload_n (pc := 0) dD_notice_0 rfl rfl ?_
  refine wq_getR (pc := 1) (z := 0) (b := 1) dD_notice_1 fO_D_12 sh_0 rfl rfl (rf_0_0 hS) ?_
  refine wq_getR (pc := 4) (z := 2) (b := 12) dD_notice_4 fO_D_148 sh_1 rfl rfl (rf_1_2 hS) ?_
  refine wq_astore_n (pc := 7) (lo' := [iR 0, iI x1, iI x2, iR 12]) dD_notice_7 rfl rfl rfl ?_
  refine wq_aload_n (pc := 8) dD_notice_8 rfl rfl ?_
  refine wq_iload_n (pc := 9) dD_notice_9 rfl rfl ?_
  refine wq_callV (d' := 1) (pc := 10) (as := [vI x1]) (rest := []) (lo' := [iR 12, iI x1]) dD_notice_10 mO_E_has lV_D_158 sh_12 (by decide) cl_2 rfl rfl rfl rfl rfl rfl ?_
  refine sp_E_has (fun c1 => ?_) (fun c1 => ?_)
  · have H := H.1 c1
    show Wq 3 0 0 mD_notice 13 [iR 0, iI x1, iI x2, iR 12] [vI 1] M _
    obtain ⟨s2, H⟩ := H
    refine wq_if_eq (pc := 13) (tgt := 36) dD_notice_13 (by decide) (fun q => absurd q (by decide)) (fun _ => ?_)
    refine wq_iload_n (pc := 16) dD_notice_16 rfl rfl ?_
    refine wq_aload_n (pc := 17) dD_notice_17 rfl rfl ?_
    refine wq_getR (pc := 18) (z := 2) (b := 15) dD_notice_18 fO_D_159 sh_12 rfl rfl (rf_12_2 hS) ?_
    refine wq_iload_n (pc := 21) dD_notice_21 rfl rfl ?_
    refine wq_iald (pc := 22) dD_notice_22 sh_15 s2.1 s2.2 ?_
    refine wq_aload_n (pc := 23) dD_notice_23 rfl rfl ?_
    refine wq_getR (pc := 24) (z := 0) (b := 1) dD_notice_24 fO_D_12 sh_0 rfl rfl (rf_0_0 hS) ?_
    refine wq_getI (pc := 27) (z := 5) dD_notice_27 fO_D_142 sh_1 rfl rfl ?_
    refine wq_callS (d' := 1) (pc := 30) (as := [vI x2, vI (gI M 15 x1), vI (gI M 1 5)]) (rest := []) (lo' := [iI x2, iI (gI M 15 x1), iI (gI M 1 5)]) dD_notice_30 mO_D_within lS_D_65 rfl rfl rfl rfl rfl rfl ?_
    refine sp_D_within (fun c3 => ?_) (fun c3 => ?_)
    · have H := H.1 c3
      show Wq 3 0 0 mD_notice 33 [iR 0, iI x1, iI x2, iR 12] [vI 1] M _
      refine wq_if_ne (pc := 33) (tgt := 43) dD_notice_33 (by decide) (fun _ => ?_) (fun q => absurd q (by decide))
      refine wq_aload_n (pc := 43) dD_notice_43 rfl rfl ?_
      refine wq_getR (pc := 44) (z := 4) (b := 17) dD_notice_44 fO_D_162 sh_12 rfl rfl (rf_12_4 hS) ?_
      refine wq_iload_n (pc := 47) dD_notice_47 rfl rfl ?_
      refine wq_iald (pc := 48) dD_notice_48 sh_17 s2.1 s2.2 ?_
      refine wq_if_lt (pc := 49) (tgt := 59) dD_notice_49 (by decide) (fun c4 => ?_) (fun c4 => ?_)
      · have H := H.1 c4
        refine wq_aload_n (pc := 59) dD_notice_59 rfl rfl ?_
        refine wq_getR (pc := 60) (z := 4) (b := 17) dD_notice_60 fO_D_162 sh_12 rfl rfl (rf_12_4 hS) ?_
        refine wq_iload_n (pc := 63) dD_notice_63 rfl rfl ?_
        refine wq_iload_n (pc := 64) dD_notice_64 rfl rfl ?_
        refine wq_iast (pc := 65) dD_notice_65 sh_17 (by decide) s2.1 s2.2 ?_
        refine wq_iconst (pc := 66) dD_notice_66 rfl ?_
        refine wq_ireturn (pc := 67) dD_notice_67 trivial ?_
        exact H
      · have H := H.2 c4
        refine wq_aload_n (pc := 52) dD_notice_52 rfl rfl ?_
        refine wq_ldc (pc := 53) (z := (-1000003)) dD_notice_53 kO_D_111 (by decide) ?_
        refine wq_callV (d' := 2) (pc := 55) (as := [vI (-1000003)]) (rest := []) (lo' := [iR 0, iI ((-1000003)), none]) dD_notice_55 mO_D_finding lV_D_70 sh_0 (by decide) cl_10 rfl rfl rfl rfl rfl rfl ?_
        refine sp_D_finding (k := 3) (by decide) (by decide) (by decide) hS ?_
        show Wq 3 0 0 mD_notice 58 [iR 0, iI x1, iI x2, iR 12] [vI (-1000003)] (sI M 69 3 (wr (gI M 69 3 + 1))) _
        refine wq_ireturn (pc := 58) dD_notice_58 trivial ?_
        exact H
    · have H := H.2 c3
      show Wq 3 0 0 mD_notice 33 [iR 0, iI x1, iI x2, iR 12] [vI 0] M _
      refine wq_if_ne (pc := 33) (tgt := 43) dD_notice_33 (by decide) (fun q => absurd q (by decide)) (fun _ => ?_)
      refine wq_aload_n (pc := 36) dD_notice_36 rfl rfl ?_
      refine wq_ldc (pc := 37) (z := (-1000001)) dD_notice_37 kO_D_69 (by decide) ?_
      refine wq_callV (d' := 2) (pc := 39) (as := [vI (-1000001)]) (rest := []) (lo' := [iR 0, iI ((-1000001)), none]) dD_notice_39 mO_D_finding lV_D_70 sh_0 (by decide) cl_10 rfl rfl rfl rfl rfl rfl ?_
      refine sp_D_finding (k := 1) (by decide) (by decide) (by decide) hS ?_
      show Wq 3 0 0 mD_notice 42 [iR 0, iI x1, iI x2, iR 12] [vI (-1000001)] (sI M 69 1 (wr (gI M 69 1 + 1))) _
      refine wq_ireturn (pc := 42) dD_notice_42 trivial ?_
      exact H
  · have H := H.2 c1
    show Wq 3 0 0 mD_notice 13 [iR 0, iI x1, iI x2, iR 12] [vI 0] M _
    refine wq_if_eq (pc := 13) (tgt := 36) dD_notice_13 (by decide) (fun _ => ?_) (fun q => absurd (by decide) q)
    refine wq_aload_n (pc := 36) dD_notice_36 rfl rfl ?_
    refine wq_ldc (pc := 37) (z := (-1000001)) dD_notice_37 kO_D_69 (by decide) ?_
    refine wq_callV (d' := 2) (pc := 39) (as := [vI (-1000001)]) (rest := []) (lo' := [iR 0, iI ((-1000001)), none]) dD_notice_39 mO_D_finding lV_D_70 sh_0 (by decide) cl_10 rfl rfl rfl rfl rfl rfl ?_
    refine sp_D_finding (k := 1) (by decide) (by decide) (by decide) hS ?_
    show Wq 3 0 0 mD_notice 42 [iR 0, iI x1, iI x2, iR 12] [vI (-1000001)] (sI M 69 1 (wr (gI M 69 1 + 1))) _
    refine wq_ireturn (pc := 42) dD_notice_42 trivial ?_
    exact H
set_option maxRecDepth 20000 in
theorem B_M_notice_0 {x1 x2 : Int} {M : Mm} {Q : Mm → Option Mv → Prop} (hS : RefOK M) (H : (0 ≤ gI M 81 4 ∧ ((0 ≤ x1 ∧ x1 < gI M 81 4 → ((0 ≤ 150 + 7 * x1 ∧ 150 + 7 * x1 < 1993) ∧ ((gI M 81 (150 + 7 * x1) ≤ x2 ∧ x2 ≤ gI M 81 0 → ((0 ≤ 152 + 7 * x1 ∧ 152 + 7 * x1 < 1993) ∧ ((gI M 81 (152 + 7 * x1) < 0 → ((0 ≤ 152 + 7 * x1 ∧ 152 + 7 * x1 < 1993) ∧ Q (sI M 81 (152 + 7 * x1) x2) (some (vI 1)))) ∧ (¬ gI M 81 (152 + 7 * x1) < 0 → Q (sI M 83 3 (wr (gI M 83 3 + 1))) (some (vI (-1000003))))))) ∧ (¬ (gI M 81 (150 + 7 * x1) ≤ x2 ∧ x2 ≤ gI M 81 0) → Q (sI M 83 1 (wr (gI M 83 1 + 1))) (some (vI (-1000001))))))) ∧ (¬ (0 ≤ x1 ∧ x1 < gI M 81 4) → Q (sI M 83 1 (wr (gI M 83 1 + 1))) (some (vI (-1000001))))))) : Wq 3 0 0 mM_notice 0 [iR 80, iI x1, iI x2] [] M Q := by
  obtain ⟨s1, H⟩ := H
  refine wq_aload_n (pc := 0) dM_notice_0 rfl rfl ?_
  refine wq_iload_n (pc := 1) dM_notice_1 rfl rfl ?_
  refine wq_iconst (pc := 2) dM_notice_2 rfl ?_
  refine wq_callV (d' := 2) (pc := 3) (as := [vI x1, vI 4]) (rest := []) (lo' := [iR 80, iI x1, iI 4]) dM_notice_3 mO_M_is lV_M_84 sh_80 (by decide) cl_11 rfl rfl rfl rfl rfl rfl ?_
  refine sp_M_is (c := 4) (by decide) hS s1 (fun c2 => ?_) (fun c2 => ?_)
  · have H := H.1 c2
    show Wq 3 0 0 mM_notice 6 [iR 80, iI x1, iI x2] [vI 1] M _
    obtain ⟨s3, H⟩ := H
    refine wq_if_eq (pc := 6) (tgt := 31) dM_notice_6 (by decide) (fun q => absurd q (by decide)) (fun _ => ?_)
    refine wq_iload_n (pc := 9) dM_notice_9 rfl rfl ?_
    refine wq_i2l (pc := 10) dM_notice_10 ?_
    refine wq_aload_n (pc := 11) dM_notice_11 rfl rfl ?_
    refine wq_iload_n (pc := 12) dM_notice_12 rfl rfl ?_
    refine wq_iconst (pc := 13) dM_notice_13 rfl ?_
    refine wq_callV (d' := 1) (pc := 14) (as := [vI x1, vI 2]) (rest := [vL x2]) (lo' := [iR 80, iI x1, iI 2]) dM_notice_14 mO_M_event2 lV_M_123 sh_80 (by decide) cl_11 rfl rfl rfl rfl rfl rfl ?_
    refine sp_M_event2 (i := (150 + 7 * x1)) (by omega) hS s3 ?_
    show Wq 3 0 0 mM_notice 17 [iR 80, iI x1, iI x2] [vI (gI M 81 (150 + 7 * x1)), vL x2] M _
    refine wq_i2l (pc := 17) dM_notice_17 ?_
    refine wq_aload_n (pc := 18) dM_notice_18 rfl rfl ?_
    refine wq_getR (pc := 19) (z := 0) (b := 81) dM_notice_19 fO_M_9 sh_80 rfl rfl (rf_80_0 hS) ?_
    refine wq_iconst (pc := 22) dM_notice_22 rfl ?_
    refine wq_iald (pc := 23) dM_notice_23 sh_81 (by decide) (by decide) ?_
    refine wq_i2l (pc := 24) dM_notice_24 ?_
    refine wq_callS (d' := 1) (pc := 25) (as := [vL x2, vL (gI M 81 (150 + 7 * x1)), vL (gI M 81 0)]) (rest := []) (lo' := [iL x2, none, iL (gI M 81 (150 + 7 * x1)), none, iL (gI M 81 0), none]) dM_notice_25 mO_M_within lS_M_68 rfl rfl rfl rfl rfl rfl ?_
    refine sp_M_within (fun c4 => ?_) (fun c4 => ?_)
    · have H := H.1 c4
      show Wq 3 0 0 mM_notice 28 [iR 80, iI x1, iI x2] [vI 1] M _
      obtain ⟨s5, H⟩ := H
      refine wq_if_ne (pc := 28) (tgt := 38) dM_notice_28 (by decide) (fun _ => ?_) (fun q => absurd q (by decide))
      refine wq_aload_n (pc := 38) dM_notice_38 rfl rfl ?_
      refine wq_iload_n (pc := 39) dM_notice_39 rfl rfl ?_
      refine wq_iconst (pc := 40) dM_notice_40 rfl ?_
      refine wq_callV (d' := 1) (pc := 41) (as := [vI x1, vI 4]) (rest := []) (lo' := [iR 80, iI x1, iI 4]) dM_notice_41 mO_M_event2 lV_M_123 sh_80 (by decide) cl_11 rfl rfl rfl rfl rfl rfl ?_
      refine sp_M_event2 (i := (152 + 7 * x1)) (by omega) hS s5 ?_
      show Wq 3 0 0 mM_notice 44 [iR 80, iI x1, iI x2] [vI (gI M 81 (152 + 7 * x1))] M _
      refine wq_if_lt (pc := 44) (tgt := 54) dM_notice_44 (by decide) (fun c6 => ?_) (fun c6 => ?_)
      · have H := H.1 c6
        obtain ⟨s7, H⟩ := H
        refine wq_aload_n (pc := 54) dM_notice_54 rfl rfl ?_
        refine wq_getR (pc := 55) (z := 0) (b := 81) dM_notice_55 fO_M_9 sh_80 rfl rfl (rf_80_0 hS) ?_
        refine wq_sipush (pc := 58) dM_notice_58 rfl ?_
        refine wq_bipush (pc := 61) dM_notice_61 rfl ?_
        refine wq_iload_n (pc := 63) dM_notice_63 rfl rfl ?_
        refine wq_imul (pc := 64) dM_notice_64 ?_
        refine wq_iadd (pc := 65) dM_notice_65 ?_
        refine wq_iconst (pc := 66) dM_notice_66 rfl ?_
        refine wq_iadd (pc := 67) dM_notice_67 ?_
        refine wq_iload_n (pc := 68) dM_notice_68 rfl rfl ?_
        refine wq_re2 (x := (wr (wr (148 + wr (7 * x1)) + 4))) (y := (152 + 7 * x1)) (by (try simp only [wr_al, wr_ar, wr_sl, wr_sr, wr_ml, wr_mr, wr_nn, wr_ww]); exact Eq.trans (wr_eq (by omega) (by omega)) (by omega)) ?_
        refine wq_iast (pc := 69) dM_notice_69 sh_81 (by decide) s7.1 s7.2 ?_
        refine wq_iconst (pc := 70) dM_notice_70 rfl ?_
        refine wq_ireturn (pc := 71) dM_notice_71 trivial ?_
        exact H
      · have H := H.2 c6
        refine wq_aload_n (pc := 47) dM_notice_47 rfl rfl ?_
        refine wq_ldc (pc := 48) (z := (-1000003)) dM_notice_48 kO_M_101 (by decide) ?_
        refine wq_callV (d' := 1) (pc := 50) (as := [vI (-1000003)]) (rest := []) (lo' := [iR 80, iI ((-1000003))]) dM_notice_50 mO_M_finding lV_M_79 sh_80 (by decide) cl_11 rfl rfl rfl rfl rfl rfl ?_
        refine sp_M_finding (k := 3) (by decide) (by decide) (by decide) hS ?_
        show Wq 3 0 0 mM_notice 53 [iR 80, iI x1, iI x2] [vI (-1000003)] (sI M 83 3 (wr (gI M 83 3 + 1))) _
        refine wq_ireturn (pc := 53) dM_notice_53 trivial ?_
        exact H
    · have H := H.2 c4
      show Wq 3 0 0 mM_notice 28 [iR 80, iI x1, iI x2] [vI 0] M _
      refine wq_if_ne (pc := 28) (tgt := 38) dM_notice_28 (by decide) (fun q => absurd q (by decide)) (fun _ => ?_)
      refine wq_aload_n (pc := 31) dM_notice_31 rfl rfl ?_
      refine wq_ldc (pc := 32) (z := (-1000001)) dM_notice_32 kO_M_78 (by decide) ?_
      refine wq_callV (d' := 1) (pc := 34) (as := [vI (-1000001)]) (rest := []) (lo' := [iR 80, iI ((-1000001))]) dM_notice_34 mO_M_finding lV_M_79 sh_80 (by decide) cl_11 rfl rfl rfl rfl rfl rfl ?_
      refine sp_M_finding (k := 1) (by decide) (by decide) (by decide) hS ?_
      show Wq 3 0 0 mM_notice 37 [iR 80, iI x1, iI x2] [vI (-1000001)] (sI M 83 1 (wr (gI M 83 1 + 1))) _
      refine wq_ireturn (pc := 37) dM_notice_37 trivial ?_
      exact H
  · have H := H.2 c2
    show Wq 3 0 0 mM_notice 6 [iR 80, iI x1, iI x2] [vI 0] M _
    refine wq_if_eq (pc := 6) (tgt := 31) dM_notice_6 (by decide) (fun _ => ?_) (fun q => absurd (by decide) q)
    refine wq_aload_n (pc := 31) dM_notice_31 rfl rfl ?_
    refine wq_ldc (pc := 32) (z := (-1000001)) dM_notice_32 kO_M_78 (by decide) ?_
    refine wq_callV (d' := 1) (pc := 34) (as := [vI (-1000001)]) (rest := []) (lo' := [iR 80, iI ((-1000001))]) dM_notice_34 mO_M_finding lV_M_79 sh_80 (by decide) cl_11 rfl rfl rfl rfl rfl rfl ?_
    refine sp_M_finding (k := 1) (by decide) (by decide) (by decide) hS ?_
    show Wq 3 0 0 mM_notice 37 [iR 80, iI x1, iI x2] [vI (-1000001)] (sI M 83 1 (wr (gI M 83 1 + 1))) _
    refine wq_ireturn (pc := 37) dM_notice_37 trivial ?_
    exact H
set_option maxRecDepth 20000 in
theorem B_D_back_0 {x1 : Int} {M : Mm} {Q : Mm → Option Mv → Prop} (hS : RefOK M) (H : ((0 ≤ x1 ∧ x1 < gI M 12 7 → ((0 ≤ x1 ∧ x1 < 20) ∧ ((0 ≤ gI M 19 x1 → Q (sI M 69 3 (wr (gI M 69 3 + 1))) (some (vI (-1000003)))) ∧ (¬ 0 ≤ gI M 19 x1 → ((¬ gI M 18 x1 = gI M 1 5 → Q (sI M 19 x1 (gI M 1 5)) (some (vI 1))) ∧ (gI M 18 x1 = gI M 1 5 → Q (sI M 69 3 (wr (gI M 69 3 + 1))) (some (vI (-1000003))))))))) ∧ (¬ (0 ≤ x1 ∧ x1 < gI M 12 7) → Q (sI M 69 1 (wr (gI M 69 1 + 1))) (some (vI (-1000001)))))) : Wq 3 0 0 mD_back 0 [iR 0, iI x1, none] [] M Q := by
  refine wq_aload_n (pc := 0) dD_back_0 rfl rfl ?_
  refine wq_getR (pc := 1) (z := 0) (b := 1) dD_back_1 fO_D_12 sh_0 rfl rfl (rf_0_0 hS) ?_
  refine wq_getR (pc := 4) (z := 2) (b := 12) dD_back_4 fO_D_148 sh_1 rfl rfl (rf_1_2 hS) ?_
  refine wq_astore_n (pc := 7) (lo' := [iR 0, iI x1, iR 12]) dD_back_7 rfl rfl rfl ?_
  refine wq_aload_n (pc := 8) dD_back_8 rfl rfl ?_
  refine wq_iload_n (pc := 9) dD_back_9 rfl rfl ?_
  refine wq_callV (d' := 1) (pc := 10) (as := [vI x1]) (rest := []) (lo' := [iR 12, iI x1]) dD_back_10 mO_E_has lV_D_158 sh_12 (by decide) cl_2 rfl rfl rfl rfl rfl rfl ?_
  refine sp_E_has (fun c1 => ?_) (fun c1 => ?_)
  · have H := H.1 c1
    show Wq 3 0 0 mD_back 13 [iR 0, iI x1, iR 12] [vI 1] M _
    obtain ⟨s2, H⟩ := H
    refine wq_if_ne (pc := 13) (tgt := 23) dD_back_13 (by decide) (fun _ => ?_) (fun q => absurd q (by decide))
    refine wq_aload_n (pc := 23) dD_back_23 rfl rfl ?_
    refine wq_getR (pc := 24) (z := 6) (b := 19) dD_back_24 fO_D_165 sh_12 rfl rfl (rf_12_6 hS) ?_
    refine wq_iload_n (pc := 27) dD_back_27 rfl rfl ?_
    refine wq_iald (pc := 28) dD_back_28 sh_19 s2.1 s2.2 ?_
    refine wq_if_ge (pc := 29) (tgt := 48) dD_back_29 (by decide) (fun c3 => ?_) (fun c3 => ?_)
    · have H := H.1 c3
      refine wq_aload_n (pc := 48) dD_back_48 rfl rfl ?_
      refine wq_ldc (pc := 49) (z := (-1000003)) dD_back_49 kO_D_111 (by decide) ?_
      refine wq_callV (d' := 2) (pc := 51) (as := [vI (-1000003)]) (rest := []) (lo' := [iR 0, iI ((-1000003)), none]) dD_back_51 mO_D_finding lV_D_70 sh_0 (by decide) cl_10 rfl rfl rfl rfl rfl rfl ?_
      refine sp_D_finding (k := 3) (by decide) (by decide) (by decide) hS ?_
      show Wq 3 0 0 mD_back 54 [iR 0, iI x1, iR 12] [vI (-1000003)] (sI M 69 3 (wr (gI M 69 3 + 1))) _
      refine wq_ireturn (pc := 54) dD_back_54 trivial ?_
      exact H
    · have H := H.2 c3
      refine wq_aload_n (pc := 32) dD_back_32 rfl rfl ?_
      refine wq_getR (pc := 33) (z := 5) (b := 18) dD_back_33 fO_D_168 sh_12 rfl rfl (rf_12_5 hS) ?_
      refine wq_iload_n (pc := 36) dD_back_36 rfl rfl ?_
      refine wq_iald (pc := 37) dD_back_37 sh_18 s2.1 s2.2 ?_
      refine wq_aload_n (pc := 38) dD_back_38 rfl rfl ?_
      refine wq_getR (pc := 39) (z := 0) (b := 1) dD_back_39 fO_D_12 sh_0 rfl rfl (rf_0_0 hS) ?_
      refine wq_getI (pc := 42) (z := 5) dD_back_42 fO_D_142 sh_1 rfl rfl ?_
      refine wq_icmp_ne (pc := 45) (tgt := 55) dD_back_45 (by decide) (fun c4 => ?_) (fun c4 => ?_)
      · have H := H.1 c4
        refine wq_aload_n (pc := 55) dD_back_55 rfl rfl ?_
        refine wq_getR (pc := 56) (z := 6) (b := 19) dD_back_56 fO_D_165 sh_12 rfl rfl (rf_12_6 hS) ?_
        refine wq_iload_n (pc := 59) dD_back_59 rfl rfl ?_
        refine wq_aload_n (pc := 60) dD_back_60 rfl rfl ?_
        refine wq_getR (pc := 61) (z := 0) (b := 1) dD_back_61 fO_D_12 sh_0 rfl rfl (rf_0_0 hS) ?_
        refine wq_getI (pc := 64) (z := 5) dD_back_64 fO_D_142 sh_1 rfl rfl ?_
        refine wq_iast (pc := 67) dD_back_67 sh_19 (by decide) s2.1 s2.2 ?_
        refine wq_iconst (pc := 68) dD_back_68 rfl ?_
        refine wq_ireturn (pc := 69) dD_back_69 trivial ?_
        exact H
      · have H := H.2 c4
        refine wq_aload_n (pc := 48) dD_back_48 rfl rfl ?_
        refine wq_ldc (pc := 49) (z := (-1000003)) dD_back_49 kO_D_111 (by decide) ?_
        refine wq_callV (d' := 2) (pc := 51) (as := [vI (-1000003)]) (rest := []) (lo' := [iR 0, iI ((-1000003)), none]) dD_back_51 mO_D_finding lV_D_70 sh_0 (by decide) cl_10 rfl rfl rfl rfl rfl rfl ?_
        refine sp_D_finding (k := 3) (by decide) (by decide) (by decide) hS ?_
        show Wq 3 0 0 mD_back 54 [iR 0, iI x1, iR 12] [vI (-1000003)] (sI M 69 3 (wr (gI M 69 3 + 1))) _
        refine wq_ireturn (pc := 54) dD_back_54 trivial ?_
        exact H
  · have H := H.2 c1
    show Wq 3 0 0 mD_back 13 [iR 0, iI x1, iR 12] [vI 0] M _
    refine wq_if_ne (pc := 13) (tgt := 23) dD_back_13 (by decide) (fun q => absurd q (by decide)) (fun _ => ?_)
    refine wq_aload_n (pc := 16) dD_back_16 rfl rfl ?_
    refine wq_ldc (pc := 17) (z := (-1000001)) dD_back_17 kO_D_69 (by decide) ?_
    refine wq_callV (d' := 2) (pc := 19) (as := [vI (-1000001)]) (rest := []) (lo' := [iR 0, iI ((-1000001)), none]) dD_back_19 mO_D_finding lV_D_70 sh_0 (by decide) cl_10 rfl rfl rfl rfl rfl rfl ?_
    refine sp_D_finding (k := 1) (by decide) (by decide) (by decide) hS ?_
    show Wq 3 0 0 mD_back 22 [iR 0, iI x1, iR 12] [vI (-1000001)] (sI M 69 1 (wr (gI M 69 1 + 1))) _
    refine wq_ireturn (pc := 22) dD_back_22 trivial ?_
    exact H
set_option maxRecDepth 20000 in
theorem B_M_back_0 {x1 : Int} {M : Mm} {Q : Mm → Option Mv → Prop} (hS : RefOK M) (H : (0 ≤ gI M 81 4 ∧ ((0 ≤ x1 ∧ x1 < gI M 81 4 → ((0 ≤ 154 + 7 * x1 ∧ 154 + 7 * x1 < 1993) ∧ ((0 ≤ gI M 81 (154 + 7 * x1) → Q (sI M 83 3 (wr (gI M 83 3 + 1))) (some (vI (-1000003)))) ∧ (¬ 0 ≤ gI M 81 (154 + 7 * x1) → ((0 ≤ 153 + 7 * x1 ∧ 153 + 7 * x1 < 1993) ∧ ((¬ gI M 81 (153 + 7 * x1) = gI M 81 0 → ((0 ≤ 154 + 7 * x1 ∧ 154 + 7 * x1 < 1993) ∧ Q (sI M 81 (154 + 7 * x1) (gI M 81 0)) (some (vI 1)))) ∧ (gI M 81 (153 + 7 * x1) = gI M 81 0 → Q (sI M 83 3 (wr (gI M 83 3 + 1))) (some (vI (-1000003)))))))))) ∧ (¬ (0 ≤ x1 ∧ x1 < gI M 81 4) → Q (sI M 83 1 (wr (gI M 83 1 + 1))) (some (vI (-1000001))))))) : Wq 3 0 0 mM_back 0 [iR 80, iI x1] [] M Q := by
  obtain ⟨s1, H⟩ := H
  refine wq_aload_n (pc := 0) dM_back_0 rfl rfl ?_
  refine wq_iload_n (pc := 1) dM_back_1 rfl rfl ?_
  refine wq_iconst (pc := 2) dM_back_2 rfl ?_
  refine wq_callV (d' := 2) (pc := 3) (as := [vI x1, vI 4]) (rest := []) (lo' := [iR 80, iI x1, iI 4]) dM_back_3 mO_M_is lV_M_84 sh_80 (by decide) cl_11 rfl rfl rfl rfl rfl rfl ?_
  refine sp_M_is (c := 4) (by decide) hS s1 (fun c2 => ?_) (fun c2 => ?_)
  · have H := H.1 c2
    show Wq 3 0 0 mM_back 6 [iR 80, iI x1] [vI 1] M _
    obtain ⟨s3, H⟩ := H
    refine wq_if_ne (pc := 6) (tgt := 16) dM_back_6 (by decide) (fun _ => ?_) (fun q => absurd q (by decide))
    refine wq_aload_n (pc := 16) dM_back_16 rfl rfl ?_
    refine wq_iload_n (pc := 17) dM_back_17 rfl rfl ?_
    refine wq_bipush (pc := 18) dM_back_18 rfl ?_
    refine wq_callV (d' := 1) (pc := 20) (as := [vI x1, vI 6]) (rest := []) (lo' := [iR 80, iI x1, iI 6]) dM_back_20 mO_M_event2 lV_M_123 sh_80 (by decide) cl_11 rfl rfl rfl rfl rfl rfl ?_
    refine sp_M_event2 (i := (154 + 7 * x1)) (by omega) hS s3 ?_
    show Wq 3 0 0 mM_back 23 [iR 80, iI x1] [vI (gI M 81 (154 + 7 * x1))] M _
    refine wq_if_ge (pc := 23) (tgt := 41) dM_back_23 (by decide) (fun c4 => ?_) (fun c4 => ?_)
    · have H := H.1 c4
      refine wq_aload_n (pc := 41) dM_back_41 rfl rfl ?_
      refine wq_ldc (pc := 42) (z := (-1000003)) dM_back_42 kO_M_101 (by decide) ?_
      refine wq_callV (d' := 1) (pc := 44) (as := [vI (-1000003)]) (rest := []) (lo' := [iR 80, iI ((-1000003))]) dM_back_44 mO_M_finding lV_M_79 sh_80 (by decide) cl_11 rfl rfl rfl rfl rfl rfl ?_
      refine sp_M_finding (k := 3) (by decide) (by decide) (by decide) hS ?_
      show Wq 3 0 0 mM_back 47 [iR 80, iI x1] [vI (-1000003)] (sI M 83 3 (wr (gI M 83 3 + 1))) _
      refine wq_ireturn (pc := 47) dM_back_47 trivial ?_
      exact H
    · have H := H.2 c4
      obtain ⟨s5, H⟩ := H
      refine wq_aload_n (pc := 26) dM_back_26 rfl rfl ?_
      refine wq_iload_n (pc := 27) dM_back_27 rfl rfl ?_
      refine wq_iconst (pc := 28) dM_back_28 rfl ?_
      refine wq_callV (d' := 1) (pc := 29) (as := [vI x1, vI 5]) (rest := []) (lo' := [iR 80, iI x1, iI 5]) dM_back_29 mO_M_event2 lV_M_123 sh_80 (by decide) cl_11 rfl rfl rfl rfl rfl rfl ?_
      refine sp_M_event2 (i := (153 + 7 * x1)) (by omega) hS s5 ?_
      show Wq 3 0 0 mM_back 32 [iR 80, iI x1] [vI (gI M 81 (153 + 7 * x1))] M _
      refine wq_aload_n (pc := 32) dM_back_32 rfl rfl ?_
      refine wq_getR (pc := 33) (z := 0) (b := 81) dM_back_33 fO_M_9 sh_80 rfl rfl (rf_80_0 hS) ?_
      refine wq_iconst (pc := 36) dM_back_36 rfl ?_
      refine wq_iald (pc := 37) dM_back_37 sh_81 (by decide) (by decide) ?_
      refine wq_icmp_ne (pc := 38) (tgt := 48) dM_back_38 (by decide) (fun c6 => ?_) (fun c6 => ?_)
      · have H := H.1 c6
        obtain ⟨s7, H⟩ := H
        refine wq_aload_n (pc := 48) dM_back_48 rfl rfl ?_
        refine wq_getR (pc := 49) (z := 0) (b := 81) dM_back_49 fO_M_9 sh_80 rfl rfl (rf_80_0 hS) ?_
        refine wq_sipush (pc := 52) dM_back_52 rfl ?_
        refine wq_bipush (pc := 55) dM_back_55 rfl ?_
        refine wq_iload_n (pc := 57) dM_back_57 rfl rfl ?_
        refine wq_imul (pc := 58) dM_back_58 ?_
        refine wq_iadd (pc := 59) dM_back_59 ?_
        refine wq_bipush (pc := 60) dM_back_60 rfl ?_
        refine wq_iadd (pc := 62) dM_back_62 ?_
        refine wq_aload_n (pc := 63) dM_back_63 rfl rfl ?_
        refine wq_getR (pc := 64) (z := 0) (b := 81) dM_back_64 fO_M_9 sh_80 rfl rfl (rf_80_0 hS) ?_
        refine wq_iconst (pc := 67) dM_back_67 rfl ?_
        refine wq_iald (pc := 68) dM_back_68 sh_81 (by decide) (by decide) ?_
        refine wq_re2 (x := (wr (wr (148 + wr (7 * x1)) + 6))) (y := (154 + 7 * x1)) (by (try simp only [wr_al, wr_ar, wr_sl, wr_sr, wr_ml, wr_mr, wr_nn, wr_ww]); exact Eq.trans (wr_eq (by omega) (by omega)) (by omega)) ?_
        refine wq_iast (pc := 69) dM_back_69 sh_81 (by decide) s7.1 s7.2 ?_
        refine wq_iconst (pc := 70) dM_back_70 rfl ?_
        refine wq_ireturn (pc := 71) dM_back_71 trivial ?_
        exact H
      · have H := H.2 c6
        refine wq_aload_n (pc := 41) dM_back_41 rfl rfl ?_
        refine wq_ldc (pc := 42) (z := (-1000003)) dM_back_42 kO_M_101 (by decide) ?_
        refine wq_callV (d' := 1) (pc := 44) (as := [vI (-1000003)]) (rest := []) (lo' := [iR 80, iI ((-1000003))]) dM_back_44 mO_M_finding lV_M_79 sh_80 (by decide) cl_11 rfl rfl rfl rfl rfl rfl ?_
        refine sp_M_finding (k := 3) (by decide) (by decide) (by decide) hS ?_
        show Wq 3 0 0 mM_back 47 [iR 80, iI x1] [vI (-1000003)] (sI M 83 3 (wr (gI M 83 3 + 1))) _
        refine wq_ireturn (pc := 47) dM_back_47 trivial ?_
        exact H
  · have H := H.2 c2
    show Wq 3 0 0 mM_back 6 [iR 80, iI x1] [vI 0] M _
    refine wq_if_ne (pc := 6) (tgt := 16) dM_back_6 (by decide) (fun q => absurd q (by decide)) (fun _ => ?_)
    refine wq_aload_n (pc := 9) dM_back_9 rfl rfl ?_
    refine wq_ldc (pc := 10) (z := (-1000001)) dM_back_10 kO_M_78 (by decide) ?_
    refine wq_callV (d' := 1) (pc := 12) (as := [vI (-1000001)]) (rest := []) (lo' := [iR 80, iI ((-1000001))]) dM_back_12 mO_M_finding lV_M_79 sh_80 (by decide) cl_11 rfl rfl rfl rfl rfl rfl ?_
    refine sp_M_finding (k := 1) (by decide) (by decide) (by decide) hS ?_
    show Wq 3 0 0 mM_back 15 [iR 80, iI x1] [vI (-1000001)] (sI M 83 1 (wr (gI M 83 1 + 1))) _
    refine wq_ireturn (pc := 15) dM_back_15 trivial ?_
    exact H
set_option maxRecDepth 20000 in
theorem B_D_of_0 {x1 x2 : Int} {M : Mm} {Q : Mm → Option Mv → Prop} (hS : RefOK M) (H : ((0 ≤ x1 ∧ x1 < gI M 12 7 → ((x2 = 0 → ((0 ≤ x1 ∧ x1 < 20) ∧ Q M (some (vI (gI M 13 x1))))) ∧ (x2 = 1 → ((0 ≤ x1 ∧ x1 < 20) ∧ Q M (some (vI (gI M 14 x1))))) ∧ (x2 = 2 → ((0 ≤ x1 ∧ x1 < 20) ∧ Q M (some (vI (gI M 15 x1))))) ∧ (x2 = 3 → ((0 ≤ x1 ∧ x1 < 20) ∧ Q M (some (vI (gI M 16 x1))))) ∧ (x2 = 4 → ((0 ≤ x1 ∧ x1 < 20) ∧ Q M (some (vI (gI M 17 x1))))) ∧ (x2 = 5 → ((0 ≤ x1 ∧ x1 < 20) ∧ Q M (some (vI (gI M 18 x1))))) ∧ (x2 = 6 → ((0 ≤ x1 ∧ x1 < 20) ∧ Q M (some (vI (gI M 19 x1))))) ∧ (¬ x2 = 0 ∧ ¬ x2 = 1 ∧ ¬ x2 = 2 ∧ ¬ x2 = 3 ∧ ¬ x2 = 4 ∧ ¬ x2 = 5 ∧ ¬ x2 = 6 → Q (sI M 69 1 (wr (gI M 69 1 + 1))) (some (vI (-1000001)))))) ∧ (¬ (0 ≤ x1 ∧ x1 < gI M 12 7) → Q (sI M 69 1 (wr (gI M 69 1 + 1))) (some (vI (-1000001)))))) : Wq 3 0 0 mD_of 0 [iR 0, iI x1, iI x2, none] [] M Q := by
  refine wq_aload_n (pc := 0) dD_of_0 rfl rfl ?_
  refine wq_getR (pc := 1) (z := 0) (b := 1) dD_of_1 fO_D_12 sh_0 rfl rfl (rf_0_0 hS) ?_
  refine wq_getR (pc := 4) (z := 2) (b := 12) dD_of_4 fO_D_148 sh_1 rfl rfl (rf_1_2 hS) ?_
  refine wq_astore_n (pc := 7) (lo' := [iR 0, iI x1, iI x2, iR 12]) dD_of_7 rfl rfl rfl ?_
  refine wq_aload_n (pc := 8) dD_of_8 rfl rfl ?_
  refine wq_iload_n (pc := 9) dD_of_9 rfl rfl ?_
  refine wq_callV (d' := 1) (pc := 10) (as := [vI x1]) (rest := []) (lo' := [iR 12, iI x1]) dD_of_10 mO_E_has lV_D_158 sh_12 (by decide) cl_2 rfl rfl rfl rfl rfl rfl ?_
  refine sp_E_has (fun c1 => ?_) (fun c1 => ?_)
  · have H := H.1 c1
    show Wq 3 0 0 mD_of 13 [iR 0, iI x1, iI x2, iR 12] [vI 1] M _
    refine wq_if_ne (pc := 13) (tgt := 23) dD_of_13 (by decide) (fun _ => ?_) (fun q => absurd q (by decide))
    refine wq_iload_n (pc := 23) dD_of_23 rfl rfl ?_
    by_cases c2 : x2 = 0
    · refine wq_tabIn (pc := 24) (tgt := 68) dD_of_24 (by rw [c2]; decide) (by rw [c2]; decide) (by rw [c2]; rfl) (by decide) ?_
      have H := H.1 c2
      obtain ⟨s3, H⟩ := H
      refine wq_aload_n (pc := 68) dD_of_68 rfl rfl ?_
      refine wq_getR (pc := 69) (z := 0) (b := 13) dD_of_69 fO_D_171 sh_12 rfl rfl (rf_12_0 hS) ?_
      refine wq_iload_n (pc := 72) dD_of_72 rfl rfl ?_
      refine wq_iald (pc := 73) dD_of_73 sh_13 s3.1 s3.2 ?_
      refine wq_ireturn (pc := 74) dD_of_74 trivial ?_
      exact H
    by_cases c4 : x2 = 1
    · refine wq_tabIn (pc := 24) (tgt := 75) dD_of_24 (by rw [c4]; decide) (by rw [c4]; decide) (by rw [c4]; rfl) (by decide) ?_
      have H := H.2.1 c4
      obtain ⟨s5, H⟩ := H
      refine wq_aload_n (pc := 75) dD_of_75 rfl rfl ?_
      refine wq_getR (pc := 76) (z := 1) (b := 14) dD_of_76 fO_D_174 sh_12 rfl rfl (rf_12_1 hS) ?_
      refine wq_iload_n (pc := 79) dD_of_79 rfl rfl ?_
      refine wq_iald (pc := 80) dD_of_80 sh_14 s5.1 s5.2 ?_
      refine wq_ireturn (pc := 81) dD_of_81 trivial ?_
      exact H
    by_cases c6 : x2 = 2
    · refine wq_tabIn (pc := 24) (tgt := 82) dD_of_24 (by rw [c6]; decide) (by rw [c6]; decide) (by rw [c6]; rfl) (by decide) ?_
      have H := H.2.2.1 c6
      obtain ⟨s7, H⟩ := H
      refine wq_aload_n (pc := 82) dD_of_82 rfl rfl ?_
      refine wq_getR (pc := 83) (z := 2) (b := 15) dD_of_83 fO_D_159 sh_12 rfl rfl (rf_12_2 hS) ?_
      refine wq_iload_n (pc := 86) dD_of_86 rfl rfl ?_
      refine wq_iald (pc := 87) dD_of_87 sh_15 s7.1 s7.2 ?_
      refine wq_ireturn (pc := 88) dD_of_88 trivial ?_
      exact H
    by_cases c8 : x2 = 3
    · refine wq_tabIn (pc := 24) (tgt := 89) dD_of_24 (by rw [c8]; decide) (by rw [c8]; decide) (by rw [c8]; rfl) (by decide) ?_
      have H := H.2.2.2.1 c8
      obtain ⟨s9, H⟩ := H
      refine wq_aload_n (pc := 89) dD_of_89 rfl rfl ?_
      refine wq_getR (pc := 90) (z := 3) (b := 16) dD_of_90 fO_D_177 sh_12 rfl rfl (rf_12_3 hS) ?_
      refine wq_iload_n (pc := 93) dD_of_93 rfl rfl ?_
      refine wq_iald (pc := 94) dD_of_94 sh_16 s9.1 s9.2 ?_
      refine wq_ireturn (pc := 95) dD_of_95 trivial ?_
      exact H
    by_cases c10 : x2 = 4
    · refine wq_tabIn (pc := 24) (tgt := 96) dD_of_24 (by rw [c10]; decide) (by rw [c10]; decide) (by rw [c10]; rfl) (by decide) ?_
      have H := H.2.2.2.2.1 c10
      obtain ⟨s11, H⟩ := H
      refine wq_aload_n (pc := 96) dD_of_96 rfl rfl ?_
      refine wq_getR (pc := 97) (z := 4) (b := 17) dD_of_97 fO_D_162 sh_12 rfl rfl (rf_12_4 hS) ?_
      refine wq_iload_n (pc := 100) dD_of_100 rfl rfl ?_
      refine wq_iald (pc := 101) dD_of_101 sh_17 s11.1 s11.2 ?_
      refine wq_ireturn (pc := 102) dD_of_102 trivial ?_
      exact H
    by_cases c12 : x2 = 5
    · refine wq_tabIn (pc := 24) (tgt := 103) dD_of_24 (by rw [c12]; decide) (by rw [c12]; decide) (by rw [c12]; rfl) (by decide) ?_
      have H := H.2.2.2.2.2.1 c12
      obtain ⟨s13, H⟩ := H
      refine wq_aload_n (pc := 103) dD_of_103 rfl rfl ?_
      refine wq_getR (pc := 104) (z := 5) (b := 18) dD_of_104 fO_D_168 sh_12 rfl rfl (rf_12_5 hS) ?_
      refine wq_iload_n (pc := 107) dD_of_107 rfl rfl ?_
      refine wq_iald (pc := 108) dD_of_108 sh_18 s13.1 s13.2 ?_
      refine wq_ireturn (pc := 109) dD_of_109 trivial ?_
      exact H
    by_cases c14 : x2 = 6
    · refine wq_tabIn (pc := 24) (tgt := 110) dD_of_24 (by rw [c14]; decide) (by rw [c14]; decide) (by rw [c14]; rfl) (by decide) ?_
      have H := H.2.2.2.2.2.2.1 c14
      obtain ⟨s15, H⟩ := H
      refine wq_aload_n (pc := 110) dD_of_110 rfl rfl ?_
      refine wq_getR (pc := 111) (z := 6) (b := 19) dD_of_111 fO_D_165 sh_12 rfl rfl (rf_12_6 hS) ?_
      refine wq_iload_n (pc := 114) dD_of_114 rfl rfl ?_
      refine wq_iald (pc := 115) dD_of_115 sh_19 s15.1 s15.2 ?_
      refine wq_ireturn (pc := 116) dD_of_116 trivial ?_
      exact H
    refine wq_tabOut (pc := 24) (tgt := 117) dD_of_24 (by omega) (by decide) ?_
    have H := H.2.2.2.2.2.2.2 (by omega)
    refine wq_aload_n (pc := 117) dD_of_117 rfl rfl ?_
    refine wq_ldc (pc := 118) (z := (-1000001)) dD_of_118 kO_D_69 (by decide) ?_
    refine wq_callV (d' := 2) (pc := 120) (as := [vI (-1000001)]) (rest := []) (lo' := [iR 0, iI ((-1000001)), none]) dD_of_120 mO_D_finding lV_D_70 sh_0 (by decide) cl_10 rfl rfl rfl rfl rfl rfl ?_
    refine sp_D_finding (k := 1) (by decide) (by decide) (by decide) hS ?_
    show Wq 3 0 0 mD_of 123 [iR 0, iI x1, iI x2, iR 12] [vI (-1000001)] (sI M 69 1 (wr (gI M 69 1 + 1))) _
    refine wq_ireturn (pc := 123) dD_of_123 trivial ?_
    exact H
  · have H := H.2 c1
    show Wq 3 0 0 mD_of 13 [iR 0, iI x1, iI x2, iR 12] [vI 0] M _
    refine wq_if_ne (pc := 13) (tgt := 23) dD_of_13 (by decide) (fun q => absurd q (by decide)) (fun _ => ?_)
    refine wq_aload_n (pc := 16) dD_of_16 rfl rfl ?_
    refine wq_ldc (pc := 17) (z := (-1000001)) dD_of_17 kO_D_69 (by decide) ?_
    refine wq_callV (d' := 2) (pc := 19) (as := [vI (-1000001)]) (rest := []) (lo' := [iR 0, iI ((-1000001)), none]) dD_of_19 mO_D_finding lV_D_70 sh_0 (by decide) cl_10 rfl rfl rfl rfl rfl rfl ?_
    refine sp_D_finding (k := 1) (by decide) (by decide) (by decide) hS ?_
    show Wq 3 0 0 mD_of 22 [iR 0, iI x1, iI x2, iR 12] [vI (-1000001)] (sI M 69 1 (wr (gI M 69 1 + 1))) _
    refine wq_ireturn (pc := 22) dD_of_22 trivial ?_
    exact H
set_option maxRecDepth 20000 in
theorem B_M_of_0 {x1 x2 : Int} {M : Mm} {Q : Mm → Option Mv → Prop} (hS : RefOK M) (H : (0 ≤ gI M 81 4 ∧ ((0 ≤ x1 ∧ x1 < gI M 81 4 → ((0 ≤ x2 ∧ x2 ≤ 6 → ((0 ≤ 148 + 7 * x1 + x2 ∧ 148 + 7 * x1 + x2 < 1993) ∧ Q M (some (vI (gI M 81 (148 + 7 * x1 + x2)))))) ∧ (¬ (0 ≤ x2 ∧ x2 ≤ 6) → Q (sI M 83 1 (wr (gI M 83 1 + 1))) (some (vI (-1000001)))))) ∧ (¬ (0 ≤ x1 ∧ x1 < gI M 81 4) → Q (sI M 83 1 (wr (gI M 83 1 + 1))) (some (vI (-1000001))))))) : Wq 3 0 0 mM_of 0 [iR 80, iI x1, iI x2] [] M Q := by
  obtain ⟨s1, H⟩ := H
  refine wq_aload_n (pc := 0) dM_of_0 rfl rfl ?_
  refine wq_iload_n (pc := 1) dM_of_1 rfl rfl ?_
  refine wq_iconst (pc := 2) dM_of_2 rfl ?_
  refine wq_callV (d' := 2) (pc := 3) (as := [vI x1, vI 4]) (rest := []) (lo' := [iR 80, iI x1, iI 4]) dM_of_3 mO_M_is lV_M_84 sh_80 (by decide) cl_11 rfl rfl rfl rfl rfl rfl ?_
  refine sp_M_is (c := 4) (by decide) hS s1 (fun c2 => ?_) (fun c2 => ?_)
  · have H := H.1 c2
    show Wq 3 0 0 mM_of 6 [iR 80, iI x1, iI x2] [vI 1] M _
    refine wq_if_eq (pc := 6) (tgt := 21) dM_of_6 (by decide) (fun q => absurd q (by decide)) (fun _ => ?_)
    refine wq_iload_n (pc := 9) dM_of_9 rfl rfl ?_
    refine wq_i2l (pc := 10) dM_of_10 ?_
    refine wq_lconst (pc := 11) (x := 0) dM_of_11 rfl rfl ?_
    refine wq_ldc2 (pc := 12) (z := 6) dM_of_12 kO_M_126 (by decide) ?_
    refine wq_callS (d' := 1) (pc := 15) (as := [vL x2, vL 0, vL 6]) (rest := []) (lo' := [iL x2, none, iL 0, none, iL 6, none]) dM_of_15 mO_M_within lS_M_68 rfl rfl rfl rfl rfl rfl ?_
    refine sp_M_within (fun c3 => ?_) (fun c3 => ?_)
    · have H := H.1 c3
      show Wq 3 0 0 mM_of 18 [iR 80, iI x1, iI x2] [vI 1] M _
      obtain ⟨s4, H⟩ := H
      refine wq_if_ne (pc := 18) (tgt := 30) dM_of_18 (by decide) (fun _ => ?_) (fun q => absurd q (by decide))
      refine wq_aload_n (pc := 30) dM_of_30 rfl rfl ?_
      refine wq_iload_n (pc := 31) dM_of_31 rfl rfl ?_
      refine wq_iload_n (pc := 32) dM_of_32 rfl rfl ?_
      refine wq_callV (d' := 1) (pc := 33) (as := [vI x1, vI x2]) (rest := []) (lo' := [iR 80, iI x1, iI x2]) dM_of_33 mO_M_event2 lV_M_123 sh_80 (by decide) cl_11 rfl rfl rfl rfl rfl rfl ?_
      refine sp_M_event2 (i := (148 + 7 * x1 + x2)) (by omega) hS s4 ?_
      show Wq 3 0 0 mM_of 36 [iR 80, iI x1, iI x2] [vI (gI M 81 (148 + 7 * x1 + x2))] M _
      refine wq_ireturn (pc := 36) dM_of_36 trivial ?_
      exact H
    · have H := H.2 c3
      show Wq 3 0 0 mM_of 18 [iR 80, iI x1, iI x2] [vI 0] M _
      refine wq_if_ne (pc := 18) (tgt := 30) dM_of_18 (by decide) (fun q => absurd q (by decide)) (fun _ => ?_)
      refine wq_aload_n (pc := 21) dM_of_21 rfl rfl ?_
      refine wq_ldc (pc := 22) (z := (-1000001)) dM_of_22 kO_M_78 (by decide) ?_
      refine wq_callV (d' := 1) (pc := 24) (as := [vI (-1000001)]) (rest := []) (lo' := [iR 80, iI ((-1000001))]) dM_of_24 mO_M_finding lV_M_79 sh_80 (by decide) cl_11 rfl rfl rfl rfl rfl rfl ?_
      refine sp_M_finding (k := 1) (by decide) (by decide) (by decide) hS ?_
      show Wq 3 0 0 mM_of 27 [iR 80, iI x1, iI x2] [vI (-1000001)] (sI M 83 1 (wr (gI M 83 1 + 1))) _
      refine wq_goto (pc := 27) (tgt := 36) dM_of_27 (by decide) ?_
      refine wq_ireturn (pc := 36) dM_of_36 trivial ?_
      exact H
  · have H := H.2 c2
    show Wq 3 0 0 mM_of 6 [iR 80, iI x1, iI x2] [vI 0] M _
    refine wq_if_eq (pc := 6) (tgt := 21) dM_of_6 (by decide) (fun _ => ?_) (fun q => absurd (by decide) q)
    refine wq_aload_n (pc := 21) dM_of_21 rfl rfl ?_
    refine wq_ldc (pc := 22) (z := (-1000001)) dM_of_22 kO_M_78 (by decide) ?_
    refine wq_callV (d' := 1) (pc := 24) (as := [vI (-1000001)]) (rest := []) (lo' := [iR 80, iI ((-1000001))]) dM_of_24 mO_M_finding lV_M_79 sh_80 (by decide) cl_11 rfl rfl rfl rfl rfl rfl ?_
    refine sp_M_finding (k := 1) (by decide) (by decide) (by decide) hS ?_
    show Wq 3 0 0 mM_of 27 [iR 80, iI x1, iI x2] [vI (-1000001)] (sI M 83 1 (wr (gI M 83 1 + 1))) _
    refine wq_goto (pc := 27) (tgt := 36) dM_of_27 (by decide) ?_
    refine wq_ireturn (pc := 36) dM_of_36 trivial ?_
    exact H
set_option maxRecDepth 20000 in
theorem B_D_work_0 {x1 x2 : Int} {M : Mm} {Q : Mm → Option Mv → Prop} (hS : RefOK M) (H : ((0 ≤ x1 ∧ x1 ≤ 5 → ((1 ≤ x2 ∧ x2 ≤ 40 → ((gI M 5 6 < 16 → Wq 1 0 0 mW_add 0 [iR 5, iI x1, iI x2] [] M (fun M' v => Wq 3 0 0 mD_work 58 [iR 0, iI x1, iI x2] (v.toList ++ []) M' Q)) ∧ (¬ gI M 5 6 < 16 → Q (sI M 69 4 (wr (gI M 69 4 + 1))) (some (vI (-1000004)))))) ∧ (¬ (1 ≤ x2 ∧ x2 ≤ 40) → Q (sI M 69 1 (wr (gI M 69 1 + 1))) (some (vI (-1000001)))))) ∧ (¬ (0 ≤ x1 ∧ x1 ≤ 5) → Q (sI M 69 1 (wr (gI M 69 1 + 1))) (some (vI (-1000001)))))) : Wq 3 0 0 mD_work 0 [iR 0, iI x1, iI x2] [] M Q := by
  refine wq_iload_n (pc := 0) dD_work_0 rfl rfl ?_
  refine wq_callS (d' := 2) (pc := 1) (as := [vI x1]) (rest := []) (lo' := [iI x1]) dD_work_1 mO_D_isKind lS_D_61 rfl rfl rfl rfl rfl rfl ?_
  refine sp_D_isKind (fun c1 => ?_) (fun c1 => ?_)
  · have H := H.1 c1
    show Wq 3 0 0 mD_work 4 [iR 0, iI x1, iI x2] [vI 1] M _
    refine wq_if_eq (pc := 4) (tgt := 17) dD_work_4 (by decide) (fun q => absurd q (by decide)) (fun _ => ?_)
    refine wq_iload_n (pc := 7) dD_work_7 rfl rfl ?_
    refine wq_iconst (pc := 8) dD_work_8 rfl ?_
    refine wq_bipush (pc := 9) dD_work_9 rfl ?_
    refine wq_callS (d' := 1) (pc := 11) (as := [vI x2, vI 1, vI 40]) (rest := []) (lo' := [iI x2, iI 1, iI 40]) dD_work_11 mO_D_within lS_D_65 rfl rfl rfl rfl rfl rfl ?_
    refine sp_D_within (fun c2 => ?_) (fun c2 => ?_)
    · have H := H.1 c2
      show Wq 3 0 0 mD_work 14 [iR 0, iI x1, iI x2] [vI 1] M _
      refine wq_if_ne (pc := 14) (tgt := 24) dD_work_14 (by decide) (fun _ => ?_) (fun q => absurd q (by decide))
      refine wq_aload_n (pc := 24) dD_work_24 rfl rfl ?_
      refine wq_getR (pc := 25) (z := 0) (b := 1) dD_work_25 fO_D_12 sh_0 rfl rfl (rf_0_0 hS) ?_
      refine wq_getR (pc := 28) (z := 1) (b := 5) dD_work_28 fO_D_74 sh_1 rfl rfl (rf_1_1 hS) ?_
      refine wq_getI (pc := 31) (z := 6) dD_work_31 fO_D_78 sh_5 rfl rfl ?_
      refine wq_bipush (pc := 34) dD_work_34 rfl ?_
      refine wq_icmp_lt (pc := 36) (tgt := 46) dD_work_36 (by decide) (fun c3 => ?_) (fun c3 => ?_)
      · have H := H.1 c3
        refine wq_aload_n (pc := 46) dD_work_46 rfl rfl ?_
        refine wq_getR (pc := 47) (z := 0) (b := 1) dD_work_47 fO_D_12 sh_0 rfl rfl (rf_0_0 hS) ?_
        refine wq_getR (pc := 50) (z := 1) (b := 5) dD_work_50 fO_D_74 sh_1 rfl rfl (rf_1_1 hS) ?_
        refine wq_iload_n (pc := 53) dD_work_53 rfl rfl ?_
        refine wq_iload_n (pc := 54) dD_work_54 rfl rfl ?_
        refine wq_callV (d' := 1) (pc := 55) (as := [vI x1, vI x2]) (rest := []) (lo' := [iR 5, iI x1, iI x2]) dD_work_55 mO_W_add lV_D_84 sh_5 (by decide) cl_9 rfl rfl rfl rfl rfl rfl ?_
        exact H
      · have H := H.2 c3
        refine wq_aload_n (pc := 39) dD_work_39 rfl rfl ?_
        refine wq_ldc (pc := 40) (z := (-1000004)) dD_work_40 kO_D_83 (by decide) ?_
        refine wq_callV (d' := 2) (pc := 42) (as := [vI (-1000004)]) (rest := []) (lo' := [iR 0, iI ((-1000004)), none]) dD_work_42 mO_D_finding lV_D_70 sh_0 (by decide) cl_10 rfl rfl rfl rfl rfl rfl ?_
        refine sp_D_finding (k := 4) (by decide) (by decide) (by decide) hS ?_
        show Wq 3 0 0 mD_work 45 [iR 0, iI x1, iI x2] [vI (-1000004)] (sI M 69 4 (wr (gI M 69 4 + 1))) _
        refine wq_ireturn (pc := 45) dD_work_45 trivial ?_
        exact H
    · have H := H.2 c2
      show Wq 3 0 0 mD_work 14 [iR 0, iI x1, iI x2] [vI 0] M _
      refine wq_if_ne (pc := 14) (tgt := 24) dD_work_14 (by decide) (fun q => absurd q (by decide)) (fun _ => ?_)
      refine wq_aload_n (pc := 17) dD_work_17 rfl rfl ?_
      refine wq_ldc (pc := 18) (z := (-1000001)) dD_work_18 kO_D_69 (by decide) ?_
      refine wq_callV (d' := 2) (pc := 20) (as := [vI (-1000001)]) (rest := []) (lo' := [iR 0, iI ((-1000001)), none]) dD_work_20 mO_D_finding lV_D_70 sh_0 (by decide) cl_10 rfl rfl rfl rfl rfl rfl ?_
      refine sp_D_finding (k := 1) (by decide) (by decide) (by decide) hS ?_
      show Wq 3 0 0 mD_work 23 [iR 0, iI x1, iI x2] [vI (-1000001)] (sI M 69 1 (wr (gI M 69 1 + 1))) _
      refine wq_ireturn (pc := 23) dD_work_23 trivial ?_
      exact H
  · have H := H.2 c1
    show Wq 3 0 0 mD_work 4 [iR 0, iI x1, iI x2] [vI 0] M _
    refine wq_if_eq (pc := 4) (tgt := 17) dD_work_4 (by decide) (fun _ => ?_) (fun q => absurd (by decide) q)
    refine wq_aload_n (pc := 17) dD_work_17 rfl rfl ?_
    refine wq_ldc (pc := 18) (z := (-1000001)) dD_work_18 kO_D_69 (by decide) ?_
    refine wq_callV (d' := 2) (pc := 20) (as := [vI (-1000001)]) (rest := []) (lo' := [iR 0, iI ((-1000001)), none]) dD_work_20 mO_D_finding lV_D_70 sh_0 (by decide) cl_10 rfl rfl rfl rfl rfl rfl ?_
    refine sp_D_finding (k := 1) (by decide) (by decide) (by decide) hS ?_
    show Wq 3 0 0 mD_work 23 [iR 0, iI x1, iI x2] [vI (-1000001)] (sI M 69 1 (wr (gI M 69 1 + 1))) _
    refine wq_ireturn (pc := 23) dD_work_23 trivial ?_
    exact H

set_option maxRecDepth 20000 in
theorem B_D_work_58 {x1 x2 y0 : Int} {M : Mm} {Q : Mm → Option Mv → Prop} (H : Q M (some (vI y0))) : Wq 3 0 0 mD_work 58 [iR 0, iI x1, iI x2] [vI y0] M Q := by
  refine wq_ireturn (pc := 58) dD_work_58 trivial ?_
  exact H
set_option maxRecDepth 20000 in
theorem B_W_add_0 {x1 x2 : Int} {M : Mm} {Q : Mm → Option Mv → Prop} (hS : RefOK M) (H : (((0 ≤ gI M 5 6 ∧ gI M 5 6 < 16) ∧ (-2147483648 ≤ gI M 5 6 + 1 ∧ gI M 5 6 + 1 < 2147483648) ∧ (-2147483648 ≤ gI M 5 6 ∧ gI M 5 6 < 2147483648)) ∧ Q (sI (sI (sI (sI (sI (sI M 6 (gI M 5 6) x1) 7 (gI M 5 6) x2) 8 (gI M 5 6) x2) 9 (gI M 5 6) 0) 11 (gI M 5 6) (gI M 5 6)) 5 6 (gI M 5 6 + 1)) (some (vI (gI M 5 6))))) : Wq 1 0 0 mW_add 0 [iR 5, iI x1, iI x2] [] M Q := by
  obtain ⟨⟨s1, s2, s3⟩, H⟩ := H
  refine wq_aload_n (pc := 0) dW_add_0 rfl rfl ?_
  refine wq_getR (pc := 1) (z := 0) (b := 6) dW_add_1 fO_W_9 sh_5 rfl rfl (rf_5_0 hS) ?_
  refine wq_aload_n (pc := 4) dW_add_4 rfl rfl ?_
  refine wq_getI (pc := 5) (z := 6) dW_add_5 fO_W_30 sh_5 rfl rfl ?_
  refine wq_iload_n (pc := 8) dW_add_8 rfl rfl ?_
  refine wq_iast (pc := 9) dW_add_9 sh_6 (by decide) s1.1 s1.2 ?_
  refine wq_aload_n (pc := 10) dW_add_10 rfl rfl ?_
  refine wq_getR (pc := 11) (z := 1) (b := 7) dW_add_11 fO_W_15 sh_5 rfl rfl (rf_5_1 hS) ?_
  refine wq_aload_n (pc := 14) dW_add_14 rfl rfl ?_
  refine wq_getI (pc := 15) (z := 6) dW_add_15 fO_W_30 sh_5 rfl rfl ?_
  refine wq_re (x := (gI (sI M 6 (gI M 5 6) x1) 5 6)) (y := (gI M 5 6)) rfl ?_
  refine wq_iload_n (pc := 18) dW_add_18 rfl rfl ?_
  refine wq_iast (pc := 19) dW_add_19 sh_7 (by decide) s1.1 s1.2 ?_
  refine wq_aload_n (pc := 20) dW_add_20 rfl rfl ?_
  refine wq_getR (pc := 21) (z := 2) (b := 8) dW_add_21 fO_W_18 sh_5 rfl rfl (rf_5_2 hS) ?_
  refine wq_aload_n (pc := 24) dW_add_24 rfl rfl ?_
  refine wq_getI (pc := 25) (z := 6) dW_add_25 fO_W_30 sh_5 rfl rfl ?_
  refine wq_re (x := (gI (sI (sI M 6 (gI M 5 6) x1) 7 (gI M 5 6) x2) 5 6)) (y := (gI M 5 6)) rfl ?_
  refine wq_iload_n (pc := 28) dW_add_28 rfl rfl ?_
  refine wq_iast (pc := 29) dW_add_29 sh_8 (by decide) s1.1 s1.2 ?_
  refine wq_aload_n (pc := 30) dW_add_30 rfl rfl ?_
  refine wq_getR (pc := 31) (z := 3) (b := 9) dW_add_31 fO_W_21 sh_5 rfl rfl (rf_5_3 hS) ?_
  refine wq_aload_n (pc := 34) dW_add_34 rfl rfl ?_
  refine wq_getI (pc := 35) (z := 6) dW_add_35 fO_W_30 sh_5 rfl rfl ?_
  refine wq_re (x := (gI (sI (sI (sI M 6 (gI M 5 6) x1) 7 (gI M 5 6) x2) 8 (gI M 5 6) x2) 5 6)) (y := (gI M 5 6)) rfl ?_
  refine wq_iconst (pc := 38) dW_add_38 rfl ?_
  refine wq_iast (pc := 39) dW_add_39 sh_9 (by decide) s1.1 s1.2 ?_
  refine wq_aload_n (pc := 40) dW_add_40 rfl rfl ?_
  refine wq_getR (pc := 41) (z := 5) (b := 11) dW_add_41 fO_W_27 sh_5 rfl rfl (rf_5_5 hS) ?_
  refine wq_aload_n (pc := 44) dW_add_44 rfl rfl ?_
  refine wq_getI (pc := 45) (z := 6) dW_add_45 fO_W_30 sh_5 rfl rfl ?_
  refine wq_re (x := (gI (sI (sI (sI (sI M 6 (gI M 5 6) x1) 7 (gI M 5 6) x2) 8 (gI M 5 6) x2) 9 (gI M 5 6) 0) 5 6)) (y := (gI M 5 6)) rfl ?_
  refine wq_aload_n (pc := 48) dW_add_48 rfl rfl ?_
  refine wq_getI (pc := 49) (z := 6) dW_add_49 fO_W_30 sh_5 rfl rfl ?_
  refine wq_re (x := (gI (sI (sI (sI (sI M 6 (gI M 5 6) x1) 7 (gI M 5 6) x2) 8 (gI M 5 6) x2) 9 (gI M 5 6) 0) 5 6)) (y := (gI M 5 6)) rfl ?_
  refine wq_iast (pc := 52) dW_add_52 sh_11 (by decide) s1.1 s1.2 ?_
  refine wq_aload_n (pc := 53) dW_add_53 rfl rfl ?_
  refine wq_dup (pc := 54) dW_add_54 rfl ?_
  refine wq_getI (pc := 55) (z := 6) dW_add_55 fO_W_30 sh_5 rfl rfl ?_
  refine wq_re (x := (gI (sI (sI (sI (sI (sI M 6 (gI M 5 6) x1) 7 (gI M 5 6) x2) 8 (gI M 5 6) x2) 9 (gI M 5 6) 0) 11 (gI M 5 6) (gI M 5 6)) 5 6)) (y := (gI M 5 6)) rfl ?_
  refine wq_iconst (pc := 58) dW_add_58 rfl ?_
  refine wq_iadd (pc := 59) dW_add_59 ?_
  refine wq_re (x := (wr (gI M 5 6 + 1))) (y := (gI M 5 6 + 1)) (Eq.trans (wr_eq (by omega) (by omega)) (by omega)) ?_
  refine wq_putI (pc := 60) (z := 6) dW_add_60 fW_W_30 sh_5 rfl rfl ?_
  refine wq_aload_n (pc := 63) dW_add_63 rfl rfl ?_
  refine wq_getI (pc := 64) (z := 6) dW_add_64 fO_W_30 sh_5 rfl rfl ?_
  refine wq_re (x := (gI (sI (sI (sI (sI (sI (sI M 6 (gI M 5 6) x1) 7 (gI M 5 6) x2) 8 (gI M 5 6) x2) 9 (gI M 5 6) 0) 11 (gI M 5 6) (gI M 5 6)) 5 6 (gI M 5 6 + 1)) 5 6)) (y := (gI M 5 6 + 1)) rfl ?_
  refine wq_iconst (pc := 67) dW_add_67 rfl ?_
  refine wq_isub (pc := 68) dW_add_68 ?_
  refine wq_re (x := (wr (gI M 5 6 + 1 - 1))) (y := (gI M 5 6)) (Eq.trans (wr_eq (by omega) (by omega)) (by omega)) ?_
  refine wq_ireturn (pc := 69) dW_add_69 trivial ?_
  exact H
set_option maxRecDepth 20000 in
theorem B_M_work_0 {x1 x2 : Int} {M : Mm} {Q : Mm → Option Mv → Prop} (hS : RefOK M) (H : ((0 ≤ x1 ∧ x1 ≤ 5 → ((1 ≤ x2 ∧ x2 ≤ 40 → ((¬ gI M 81 2 = 16 → (((0 ≤ 10 + 3 * gI M 81 2 ∧ 10 + 3 * gI M 81 2 < 1993) ∧ (0 ≤ 11 + 3 * gI M 81 2 ∧ 11 + 3 * gI M 81 2 < 1993) ∧ (0 ≤ 12 + 3 * gI M 81 2 ∧ 12 + 3 * gI M 81 2 < 1993) ∧ 2 ≠ 12 + 3 * gI M 81 2 ∧ 2 ≠ 11 + 3 * gI M 81 2 ∧ 2 ≠ 10 + 3 * gI M 81 2 ∧ (-2147483648 ≤ gI M 81 2 + 1 ∧ gI M 81 2 + 1 < 2147483648)) ∧ Wq 1 0 0 mM_changed 0 [iR 80, none] [] (sI (sI (sI (sI M 81 (10 + 3 * gI M 81 2) x1) 81 (11 + 3 * gI M 81 2) x2) 81 (12 + 3 * gI M 81 2) x2) 81 2 (gI M 81 2 + 1)) (fun M' v => Wq 2 0 0 mM_work 107 [iR 80, iI x1, iI x2, iI (gI M 81 2)] (v.toList ++ []) M' Q))) ∧ (gI M 81 2 = 16 → Q (sI M 83 4 (wr (gI M 83 4 + 1))) (some (vI (-1000004)))))) ∧ (¬ (1 ≤ x2 ∧ x2 ≤ 40) → Q (sI M 83 1 (wr (gI M 83 1 + 1))) (some (vI (-1000001)))))) ∧ (¬ (0 ≤ x1 ∧ x1 ≤ 5) → Q (sI M 83 1 (wr (gI M 83 1 + 1))) (some (vI (-1000001)))))) : Wq 2 0 0 mM_work 0 [iR 80, iI x1, iI x2, none] [] M Q := by
  refine wq_iload_n (pc := 0) dM_work_0 rfl rfl ?_
  refine wq_i2l (pc := 1) dM_work_1 ?_
  refine wq_lconst (pc := 2) (x := 0) dM_work_2 rfl rfl ?_
  refine wq_ldc2 (pc := 3) (z := 5) dM_work_3 kO_M_74 (by decide) ?_
  refine wq_callS (d' := 1) (pc := 6) (as := [vL x1, vL 0, vL 5]) (rest := []) (lo' := [iL x1, none, iL 0, none, iL 5, none]) dM_work_6 mO_M_within lS_M_68 rfl rfl rfl rfl rfl rfl ?_
  refine sp_M_within (fun c1 => ?_) (fun c1 => ?_)
  · have H := H.1 c1
    show Wq 2 0 0 mM_work 9 [iR 80, iI x1, iI x2, none] [vI 1] M _
    refine wq_if_eq (pc := 9) (tgt := 24) dM_work_9 (by decide) (fun q => absurd q (by decide)) (fun _ => ?_)
    refine wq_iload_n (pc := 12) dM_work_12 rfl rfl ?_
    refine wq_i2l (pc := 13) dM_work_13 ?_
    refine wq_lconst (pc := 14) (x := 1) dM_work_14 rfl rfl ?_
    refine wq_ldc2 (pc := 15) (z := 40) dM_work_15 kO_M_76 (by decide) ?_
    refine wq_callS (d' := 1) (pc := 18) (as := [vL x2, vL 1, vL 40]) (rest := []) (lo' := [iL x2, none, iL 1, none, iL 40, none]) dM_work_18 mO_M_within lS_M_68 rfl rfl rfl rfl rfl rfl ?_
    refine sp_M_within (fun c2 => ?_) (fun c2 => ?_)
    · have H := H.1 c2
      show Wq 2 0 0 mM_work 21 [iR 80, iI x1, iI x2, none] [vI 1] M _
      refine wq_if_ne (pc := 21) (tgt := 31) dM_work_21 (by decide) (fun _ => ?_) (fun q => absurd q (by decide))
      refine wq_aload_n (pc := 31) dM_work_31 rfl rfl ?_
      refine wq_getR (pc := 32) (z := 0) (b := 81) dM_work_32 fO_M_9 sh_80 rfl rfl (rf_80_0 hS) ?_
      refine wq_iconst (pc := 35) dM_work_35 rfl ?_
      refine wq_iald (pc := 36) dM_work_36 sh_81 (by decide) (by decide) ?_
      refine wq_istore_n (pc := 37) (lo' := [iR 80, iI x1, iI x2, iI (gI M 81 2)]) dM_work_37 rfl rfl rfl ?_
      refine wq_iload_n (pc := 38) dM_work_38 rfl rfl ?_
      refine wq_bipush (pc := 39) dM_work_39 rfl ?_
      refine wq_icmp_ne (pc := 41) (tgt := 51) dM_work_41 (by decide) (fun c3 => ?_) (fun c3 => ?_)
      · have H := H.1 c3
        obtain ⟨⟨s4, s5, s6, s7, s8, s9, s10⟩, H⟩ := H
        refine wq_aload_n (pc := 51) dM_work_51 rfl rfl ?_
        refine wq_getR (pc := 52) (z := 0) (b := 81) dM_work_52 fO_M_9 sh_80 rfl rfl (rf_80_0 hS) ?_
        refine wq_bipush (pc := 55) dM_work_55 rfl ?_
        refine wq_iconst (pc := 57) dM_work_57 rfl ?_
        refine wq_iload_n (pc := 58) dM_work_58 rfl rfl ?_
        refine wq_imul (pc := 59) dM_work_59 ?_
        refine wq_iadd (pc := 60) dM_work_60 ?_
        refine wq_iconst (pc := 61) dM_work_61 rfl ?_
        refine wq_iadd (pc := 62) dM_work_62 ?_
        refine wq_iload_n (pc := 63) dM_work_63 rfl rfl ?_
        refine wq_re2 (x := (wr (wr (10 + wr (3 * gI M 81 2)) + 0))) (y := (10 + 3 * gI M 81 2)) (by (try simp only [wr_al, wr_ar, wr_sl, wr_sr, wr_ml, wr_mr, wr_nn, wr_ww]); exact Eq.trans (wr_eq (by omega) (by omega)) (by omega)) ?_
        refine wq_iast (pc := 64) dM_work_64 sh_81 (by decide) s4.1 s4.2 ?_
        refine wq_aload_n (pc := 65) dM_work_65 rfl rfl ?_
        refine wq_getR (pc := 66) (z := 0) (b := 81) dM_work_66 fO_M_9 sh_80 rfl rfl (rf_80_0 hS) ?_
        refine wq_bipush (pc := 69) dM_work_69 rfl ?_
        refine wq_iconst (pc := 71) dM_work_71 rfl ?_
        refine wq_iload_n (pc := 72) dM_work_72 rfl rfl ?_
        refine wq_imul (pc := 73) dM_work_73 ?_
        refine wq_iadd (pc := 74) dM_work_74 ?_
        refine wq_iconst (pc := 75) dM_work_75 rfl ?_
        refine wq_iadd (pc := 76) dM_work_76 ?_
        refine wq_iload_n (pc := 77) dM_work_77 rfl rfl ?_
        refine wq_re2 (x := (wr (wr (10 + wr (3 * gI M 81 2)) + 1))) (y := (11 + 3 * gI M 81 2)) (by (try simp only [wr_al, wr_ar, wr_sl, wr_sr, wr_ml, wr_mr, wr_nn, wr_ww]); exact Eq.trans (wr_eq (by omega) (by omega)) (by omega)) ?_
        refine wq_iast (pc := 78) dM_work_78 sh_81 (by decide) s5.1 s5.2 ?_
        refine wq_aload_n (pc := 79) dM_work_79 rfl rfl ?_
        refine wq_getR (pc := 80) (z := 0) (b := 81) dM_work_80 fO_M_9 sh_80 rfl rfl (rf_80_0 hS) ?_
        refine wq_bipush (pc := 83) dM_work_83 rfl ?_
        refine wq_iconst (pc := 85) dM_work_85 rfl ?_
        refine wq_iload_n (pc := 86) dM_work_86 rfl rfl ?_
        refine wq_imul (pc := 87) dM_work_87 ?_
        refine wq_iadd (pc := 88) dM_work_88 ?_
        refine wq_iconst (pc := 89) dM_work_89 rfl ?_
        refine wq_iadd (pc := 90) dM_work_90 ?_
        refine wq_iload_n (pc := 91) dM_work_91 rfl rfl ?_
        refine wq_re2 (x := (wr (wr (10 + wr (3 * gI M 81 2)) + 2))) (y := (12 + 3 * gI M 81 2)) (by (try simp only [wr_al, wr_ar, wr_sl, wr_sr, wr_ml, wr_mr, wr_nn, wr_ww]); exact Eq.trans (wr_eq (by omega) (by omega)) (by omega)) ?_
        refine wq_iast (pc := 92) dM_work_92 sh_81 (by decide) s6.1 s6.2 ?_
        refine wq_aload_n (pc := 93) dM_work_93 rfl rfl ?_
        refine wq_getR (pc := 94) (z := 0) (b := 81) dM_work_94 fO_M_9 sh_80 rfl rfl (rf_80_0 hS) ?_
        refine wq_iconst (pc := 97) dM_work_97 rfl ?_
        refine wq_dup2 (pc := 98) dM_work_98 rfl rfl ?_
        refine wq_iald (pc := 99) dM_work_99 sh_81 (by decide) (by decide) ?_
        refine wq_re (x := (gI (sI (sI (sI M 81 (10 + 3 * gI M 81 2) x1) 81 (11 + 3 * gI M 81 2) x2) 81 (12 + 3 * gI M 81 2) x2) 81 2)) (y := (gI M 81 2)) (Eq.trans (gI_n (Or.inr s7)) (Eq.trans (gI_n (Or.inr s8)) (gI_n (Or.inr s9)))) ?_
        refine wq_iconst (pc := 100) dM_work_100 rfl ?_
        refine wq_iadd (pc := 101) dM_work_101 ?_
        refine wq_re (x := (wr (gI M 81 2 + 1))) (y := (gI M 81 2 + 1)) (Eq.trans (wr_eq (by omega) (by omega)) (by omega)) ?_
        refine wq_iast (pc := 102) dM_work_102 sh_81 (by decide) (by decide) (by decide) ?_
        refine wq_aload_n (pc := 103) dM_work_103 rfl rfl ?_
        refine wq_callV (d' := 1) (pc := 104) (as := []) (rest := []) (lo' := [iR 80, none]) dM_work_104 mO_M_changed lV_M_64 sh_80 (by decide) cl_11 rfl rfl rfl rfl rfl rfl ?_
        exact H
      · have H := H.2 c3
        refine wq_aload_n (pc := 44) dM_work_44 rfl rfl ?_
        refine wq_ldc (pc := 45) (z := (-1000004)) dM_work_45 kO_M_83 (by decide) ?_
        refine wq_callV (d' := 1) (pc := 47) (as := [vI (-1000004)]) (rest := []) (lo' := [iR 80, iI ((-1000004))]) dM_work_47 mO_M_finding lV_M_79 sh_80 (by decide) cl_11 rfl rfl rfl rfl rfl rfl ?_
        refine sp_M_finding (k := 4) (by decide) (by decide) (by decide) hS ?_
        show Wq 2 0 0 mM_work 50 [iR 80, iI x1, iI x2, iI (gI M 81 2)] [vI (-1000004)] (sI M 83 4 (wr (gI M 83 4 + 1))) _
        refine wq_ireturn (pc := 50) dM_work_50 trivial ?_
        exact H
    · have H := H.2 c2
      show Wq 2 0 0 mM_work 21 [iR 80, iI x1, iI x2, none] [vI 0] M _
      refine wq_if_ne (pc := 21) (tgt := 31) dM_work_21 (by decide) (fun q => absurd q (by decide)) (fun _ => ?_)
      refine wq_aload_n (pc := 24) dM_work_24 rfl rfl ?_
      refine wq_ldc (pc := 25) (z := (-1000001)) dM_work_25 kO_M_78 (by decide) ?_
      refine wq_callV (d' := 1) (pc := 27) (as := [vI (-1000001)]) (rest := []) (lo' := [iR 80, iI ((-1000001))]) dM_work_27 mO_M_finding lV_M_79 sh_80 (by decide) cl_11 rfl rfl rfl rfl rfl rfl ?_
      refine sp_M_finding (k := 1) (by decide) (by decide) (by decide) hS ?_
      show Wq 2 0 0 mM_work 30 [iR 80, iI x1, iI x2, none] [vI (-1000001)] (sI M 83 1 (wr (gI M 83 1 + 1))) _
      refine wq_ireturn (pc := 30) dM_work_30 trivial ?_
      exact H
  · have H := H.2 c1
    show Wq 2 0 0 mM_work 9 [iR 80, iI x1, iI x2, none] [vI 0] M _
    refine wq_if_eq (pc := 9) (tgt := 24) dM_work_9 (by decide) (fun _ => ?_) (fun q => absurd (by decide) q)
    refine wq_aload_n (pc := 24) dM_work_24 rfl rfl ?_
    refine wq_ldc (pc := 25) (z := (-1000001)) dM_work_25 kO_M_78 (by decide) ?_
    refine wq_callV (d' := 1) (pc := 27) (as := [vI (-1000001)]) (rest := []) (lo' := [iR 80, iI ((-1000001))]) dM_work_27 mO_M_finding lV_M_79 sh_80 (by decide) cl_11 rfl rfl rfl rfl rfl rfl ?_
    refine sp_M_finding (k := 1) (by decide) (by decide) (by decide) hS ?_
    show Wq 2 0 0 mM_work 30 [iR 80, iI x1, iI x2, none] [vI (-1000001)] (sI M 83 1 (wr (gI M 83 1 + 1))) _
    refine wq_ireturn (pc := 30) dM_work_30 trivial ?_
    exact H

set_option maxRecDepth 20000 in
theorem B_M_work_107 {x1 x2 x3 : Int} {M : Mm} {Q : Mm → Option Mv → Prop} (H : Q M (some (vI x3))) : Wq 2 0 0 mM_work 107 [iR 80, iI x1, iI x2, iI x3] [] M Q := by
  refine wq_iload_n (pc := 107) dM_work_107 rfl rfl ?_
  refine wq_ireturn (pc := 108) dM_work_108 trivial ?_
  exact H
set_option maxRecDepth 20000 in
theorem B_M_changed_0 {M : Mm} {Q : Mm → Option Mv → Prop} (H : Wq 1 0 0 mM_changed 7 [iR 80, iI 0] [] (sI M 80 13 0) Q) : Wq 1 0 0 mM_changed 0 [iR 80, none] [] M Q := by
  refine wq_aload_n (pc := 0) dM_changed_0 rfl rfl ?_
  refine wq_iconst (pc := 1) dM_changed_1 rfl ?_
  refine wq_putZ (pc := 2) (z := 13) dM_changed_2 fW_M_135 sh_80 rfl rfl (Or.inl rfl) ?_
  refine wq_iconst (pc := 5) dM_changed_5 rfl ?_
  refine wq_istore_n (pc := 6) (lo' := [iR 80, iI 0]) dM_changed_6 rfl rfl rfl ?_
  exact H

set_option maxRecDepth 20000 in
theorem B_M_changed_7 {x1 : Int} {M : Mm} {Q : Mm → Option Mv → Prop} (hS : RefOK M) (H : ((16 ≤ x1 → Q M none) ∧ (¬ 16 ≤ x1 → (((0 ≤ x1 ∧ x1 < 16) ∧ (-2147483648 ≤ x1 + 1 ∧ x1 + 1 < 2147483648)) ∧ Wq 1 0 0 mM_changed 7 [iR 80, iI (x1 + 1)] [] (sI M 92 x1 (-1)) Q)))) : Wq 1 0 0 mM_changed 7 [iR 80, iI x1] [] M Q := by
  refine wq_iload_n (pc := 7) dM_changed_7 rfl rfl ?_
  refine wq_bipush (pc := 8) dM_changed_8 rfl ?_
  refine wq_icmp_ge (pc := 10) (tgt := 26) dM_changed_10 (by decide) (fun c1 => ?_) (fun c1 => ?_)
  · have H := H.1 c1
    refine wq_return (pc := 26) dM_changed_26 trivial ?_
    exact H
  · have H := H.2 c1
    obtain ⟨⟨s2, s3⟩, H⟩ := H
    refine wq_aload_n (pc := 13) dM_changed_13 rfl rfl ?_
    refine wq_getR (pc := 14) (z := 14) (b := 92) dM_changed_14 fO_M_43 sh_80 rfl rfl (rf_80_14 hS) ?_
    refine wq_iload_n (pc := 17) dM_changed_17 rfl rfl ?_
    refine wq_iconst (pc := 18) dM_changed_18 rfl ?_
    refine wq_iast (pc := 19) dM_changed_19 sh_92 (by decide) s2.1 s2.2 ?_
    refine wq_iinc (pc := 20) (lo' := [iR 80, iI (x1 + 1)]) dM_changed_20 rfl rfl (by rw [show wr (x1 + 1) = x1 + 1 from (Eq.trans (wr_eq (by omega) (by omega)) (by omega))]; rfl) ?_
    refine wq_goto (pc := 23) (tgt := 7) dM_changed_23 (by decide) ?_
    exact H
set_option maxRecDepth 20000 in
theorem B_D_edit_0 {x1 x2 : Int} {M : Mm} {Q : Mm → Option Mv → Prop} (hS : RefOK M) (H : ((0 ≤ x1 ∧ x1 < gI M 5 6 → ((1 ≤ x2 ∧ x2 ≤ 40 → Wq 1 0 0 mH_mostOf 0 [iR 26, iI x1, none] [] M (fun M' v => Wq 3 0 0 mD_edit 44 [iR 0, iI x1, iI x2, iR 5, none] (v.toList ++ []) M' Q)) ∧ (¬ (1 ≤ x2 ∧ x2 ≤ 40) → Q (sI M 69 1 (wr (gI M 69 1 + 1))) (some (vI (-1000001)))))) ∧ (¬ (0 ≤ x1 ∧ x1 < gI M 5 6) → Q (sI M 69 1 (wr (gI M 69 1 + 1))) (some (vI (-1000001)))))) : Wq 3 0 0 mD_edit 0 [iR 0, iI x1, iI x2, none, none] [] M Q := by
  refine wq_aload_n (pc := 0) dD_edit_0 rfl rfl ?_
  refine wq_getR (pc := 1) (z := 0) (b := 1) dD_edit_1 fO_D_12 sh_0 rfl rfl (rf_0_0 hS) ?_
  refine wq_getR (pc := 4) (z := 1) (b := 5) dD_edit_4 fO_D_74 sh_1 rfl rfl (rf_1_1 hS) ?_
  refine wq_astore_n (pc := 7) (lo' := [iR 0, iI x1, iI x2, iR 5, none]) dD_edit_7 rfl rfl rfl ?_
  refine wq_aload_n (pc := 8) dD_edit_8 rfl rfl ?_
  refine wq_iload_n (pc := 9) dD_edit_9 rfl rfl ?_
  refine wq_callV (d' := 1) (pc := 10) (as := [vI x1]) (rest := []) (lo' := [iR 5, iI x1]) dD_edit_10 mO_W_has lV_D_88 sh_5 (by decide) cl_9 rfl rfl rfl rfl rfl rfl ?_
  refine sp_W_has (fun c1 => ?_) (fun c1 => ?_)
  · have H := H.1 c1
    show Wq 3 0 0 mD_edit 13 [iR 0, iI x1, iI x2, iR 5, none] [vI 1] M _
    refine wq_if_eq (pc := 13) (tgt := 26) dD_edit_13 (by decide) (fun q => absurd q (by decide)) (fun _ => ?_)
    refine wq_iload_n (pc := 16) dD_edit_16 rfl rfl ?_
    refine wq_iconst (pc := 17) dD_edit_17 rfl ?_
    refine wq_bipush (pc := 18) dD_edit_18 rfl ?_
    refine wq_callS (d' := 1) (pc := 20) (as := [vI x2, vI 1, vI 40]) (rest := []) (lo' := [iI x2, iI 1, iI 40]) dD_edit_20 mO_D_within lS_D_65 rfl rfl rfl rfl rfl rfl ?_
    refine sp_D_within (fun c2 => ?_) (fun c2 => ?_)
    · have H := H.1 c2
      show Wq 3 0 0 mD_edit 23 [iR 0, iI x1, iI x2, iR 5, none] [vI 1] M _
      refine wq_if_ne (pc := 23) (tgt := 33) dD_edit_23 (by decide) (fun _ => ?_) (fun q => absurd q (by decide))
      refine wq_aload_n (pc := 33) dD_edit_33 rfl rfl ?_
      refine wq_getR (pc := 34) (z := 0) (b := 1) dD_edit_34 fO_D_12 sh_0 rfl rfl (rf_0_0 hS) ?_
      refine wq_getR (pc := 37) (z := 4) (b := 26) dD_edit_37 fO_D_102 sh_1 rfl rfl (rf_1_4 hS) ?_
      refine wq_iload_n (pc := 40) dD_edit_40 rfl rfl ?_
      refine wq_callV (d' := 1) (pc := 41) (as := [vI x1]) (rest := []) (lo' := [iR 26, iI x1, none]) dD_edit_41 mO_H_mostOf lV_D_106 sh_26 (by decide) cl_3 rfl rfl rfl rfl rfl rfl ?_
      exact H
    · have H := H.2 c2
      show Wq 3 0 0 mD_edit 23 [iR 0, iI x1, iI x2, iR 5, none] [vI 0] M _
      refine wq_if_ne (pc := 23) (tgt := 33) dD_edit_23 (by decide) (fun q => absurd q (by decide)) (fun _ => ?_)
      refine wq_aload_n (pc := 26) dD_edit_26 rfl rfl ?_
      refine wq_ldc (pc := 27) (z := (-1000001)) dD_edit_27 kO_D_69 (by decide) ?_
      refine wq_callV (d' := 2) (pc := 29) (as := [vI (-1000001)]) (rest := []) (lo' := [iR 0, iI ((-1000001)), none]) dD_edit_29 mO_D_finding lV_D_70 sh_0 (by decide) cl_10 rfl rfl rfl rfl rfl rfl ?_
      refine sp_D_finding (k := 1) (by decide) (by decide) (by decide) hS ?_
      show Wq 3 0 0 mD_edit 32 [iR 0, iI x1, iI x2, iR 5, none] [vI (-1000001)] (sI M 69 1 (wr (gI M 69 1 + 1))) _
      refine wq_ireturn (pc := 32) dD_edit_32 trivial ?_
      exact H
  · have H := H.2 c1
    show Wq 3 0 0 mD_edit 13 [iR 0, iI x1, iI x2, iR 5, none] [vI 0] M _
    refine wq_if_eq (pc := 13) (tgt := 26) dD_edit_13 (by decide) (fun _ => ?_) (fun q => absurd (by decide) q)
    refine wq_aload_n (pc := 26) dD_edit_26 rfl rfl ?_
    refine wq_ldc (pc := 27) (z := (-1000001)) dD_edit_27 kO_D_69 (by decide) ?_
    refine wq_callV (d' := 2) (pc := 29) (as := [vI (-1000001)]) (rest := []) (lo' := [iR 0, iI ((-1000001)), none]) dD_edit_29 mO_D_finding lV_D_70 sh_0 (by decide) cl_10 rfl rfl rfl rfl rfl rfl ?_
    refine sp_D_finding (k := 1) (by decide) (by decide) (by decide) hS ?_
    show Wq 3 0 0 mD_edit 32 [iR 0, iI x1, iI x2, iR 5, none] [vI (-1000001)] (sI M 69 1 (wr (gI M 69 1 + 1))) _
    refine wq_ireturn (pc := 32) dD_edit_32 trivial ?_
    exact H

set_option maxRecDepth 20000 in
theorem B_D_edit_44 {x1 x2 y0 : Int} {M : Mm} {Q : Mm → Option Mv → Prop} (hS : RefOK M) (H : ((y0 < x2 → ((0 ≤ x1 ∧ x1 < 16) ∧ Q (sI M 7 x1 x2) (some (vI (gI M 7 x1))))) ∧ (¬ y0 < x2 → Q (sI M 69 3 (wr (gI M 69 3 + 1))) (some (vI (-1000003)))))) : Wq 3 0 0 mD_edit 44 [iR 0, iI x1, iI x2, iR 5, none] [vI y0] M Q := by
  refine wq_iload_n (pc := 44) dD_edit_44 rfl rfl ?_
  refine wq_icmp_lt (pc := 45) (tgt := 55) dD_edit_45 (by decide) (fun c1 => ?_) (fun c1 => ?_)
  · have H := H.1 c1
    obtain ⟨s2, H⟩ := H
    refine wq_aload_n (pc := 55) dD_edit_55 rfl rfl ?_
    refine wq_getR (pc := 56) (z := 1) (b := 7) dD_edit_56 fO_D_99 sh_5 rfl rfl (rf_5_1 hS) ?_
    refine wq_iload_n (pc := 59) dD_edit_59 rfl rfl ?_
    refine wq_iald (pc := 60) dD_edit_60 sh_7 s2.1 s2.2 ?_
    refine wq_istore (pc := 61) (lo' := [iR 0, iI x1, iI x2, iR 5, iI (gI M 7 x1)]) dD_edit_61 rfl rfl ?_
    refine wq_aload_n (pc := 63) dD_edit_63 rfl rfl ?_
    refine wq_getR (pc := 64) (z := 1) (b := 7) dD_edit_64 fO_D_99 sh_5 rfl rfl (rf_5_1 hS) ?_
    refine wq_iload_n (pc := 67) dD_edit_67 rfl rfl ?_
    refine wq_iload_n (pc := 68) dD_edit_68 rfl rfl ?_
    refine wq_iast (pc := 69) dD_edit_69 sh_7 (by decide) s2.1 s2.2 ?_
    refine wq_iload (pc := 70) dD_edit_70 rfl ?_
    refine wq_ireturn (pc := 72) dD_edit_72 trivial ?_
    exact H
  · have H := H.2 c1
    refine wq_aload_n (pc := 48) dD_edit_48 rfl rfl ?_
    refine wq_ldc (pc := 49) (z := (-1000003)) dD_edit_49 kO_D_111 (by decide) ?_
    refine wq_callV (d' := 2) (pc := 51) (as := [vI (-1000003)]) (rest := []) (lo' := [iR 0, iI ((-1000003)), none]) dD_edit_51 mO_D_finding lV_D_70 sh_0 (by decide) cl_10 rfl rfl rfl rfl rfl rfl ?_
    refine sp_D_finding (k := 3) (by decide) (by decide) (by decide) hS ?_
    show Wq 3 0 0 mD_edit 54 [iR 0, iI x1, iI x2, iR 5, none] [vI (-1000003)] (sI M 69 3 (wr (gI M 69 3 + 1))) _
    refine wq_ireturn (pc := 54) dD_edit_54 trivial ?_
    exact H
set_option maxRecDepth 20000 in
theorem B_M_edit_0 {x1 x2 : Int} {M : Mm} {Q : Mm → Option Mv → Prop} (hS : RefOK M) (H : (0 ≤ gI M 81 2 ∧ ((0 ≤ x1 ∧ x1 < gI M 81 2 → ((1 ≤ x2 ∧ x2 ≤ 40 → Wq 1 0 0 mM_hurried 0 [iR 80, iI x1, none, none] [] M (fun M' v => Wq 3 0 0 mM_edit 34 [iR 80, iI x1, iI x2, none] (v.toList ++ [vI x2]) M' Q)) ∧ (¬ (1 ≤ x2 ∧ x2 ≤ 40) → Q (sI M 83 1 (wr (gI M 83 1 + 1))) (some (vI (-1000001)))))) ∧ (¬ (0 ≤ x1 ∧ x1 < gI M 81 2) → Q (sI M 83 1 (wr (gI M 83 1 + 1))) (some (vI (-1000001))))))) : Wq 3 0 0 mM_edit 0 [iR 80, iI x1, iI x2, none] [] M Q := by
  obtain ⟨s1, H⟩ := H
  refine wq_aload_n (pc := 0) dM_edit_0 rfl rfl ?_
  refine wq_iload_n (pc := 1) dM_edit_1 rfl rfl ?_
  refine wq_iconst (pc := 2) dM_edit_2 rfl ?_
  refine wq_callV (d' := 2) (pc := 3) (as := [vI x1, vI 2]) (rest := []) (lo' := [iR 80, iI x1, iI 2]) dM_edit_3 mO_M_is lV_M_84 sh_80 (by decide) cl_11 rfl rfl rfl rfl rfl rfl ?_
  refine sp_M_is (c := 2) (by decide) hS s1 (fun c2 => ?_) (fun c2 => ?_)
  · have H := H.1 c2
    show Wq 3 0 0 mM_edit 6 [iR 80, iI x1, iI x2, none] [vI 1] M _
    refine wq_if_eq (pc := 6) (tgt := 21) dM_edit_6 (by decide) (fun q => absurd q (by decide)) (fun _ => ?_)
    refine wq_iload_n (pc := 9) dM_edit_9 rfl rfl ?_
    refine wq_i2l (pc := 10) dM_edit_10 ?_
    refine wq_lconst (pc := 11) (x := 1) dM_edit_11 rfl rfl ?_
    refine wq_ldc2 (pc := 12) (z := 40) dM_edit_12 kO_M_76 (by decide) ?_
    refine wq_callS (d' := 1) (pc := 15) (as := [vL x2, vL 1, vL 40]) (rest := []) (lo' := [iL x2, none, iL 1, none, iL 40, none]) dM_edit_15 mO_M_within lS_M_68 rfl rfl rfl rfl rfl rfl ?_
    refine sp_M_within (fun c3 => ?_) (fun c3 => ?_)
    · have H := H.1 c3
      show Wq 3 0 0 mM_edit 18 [iR 80, iI x1, iI x2, none] [vI 1] M _
      refine wq_if_ne (pc := 18) (tgt := 28) dM_edit_18 (by decide) (fun _ => ?_) (fun q => absurd q (by decide))
      refine wq_iload_n (pc := 28) dM_edit_28 rfl rfl ?_
      refine wq_aload_n (pc := 29) dM_edit_29 rfl rfl ?_
      refine wq_iload_n (pc := 30) dM_edit_30 rfl rfl ?_
      refine wq_callV (d' := 1) (pc := 31) (as := [vI x1]) (rest := [vI x2]) (lo' := [iR 80, iI x1, none, none]) dM_edit_31 mO_M_hurried lV_M_98 sh_80 (by decide) cl_11 rfl rfl rfl rfl rfl rfl ?_
      exact H
    · have H := H.2 c3
      show Wq 3 0 0 mM_edit 18 [iR 80, iI x1, iI x2, none] [vI 0] M _
      refine wq_if_ne (pc := 18) (tgt := 28) dM_edit_18 (by decide) (fun q => absurd q (by decide)) (fun _ => ?_)
      refine wq_aload_n (pc := 21) dM_edit_21 rfl rfl ?_
      refine wq_ldc (pc := 22) (z := (-1000001)) dM_edit_22 kO_M_78 (by decide) ?_
      refine wq_callV (d' := 1) (pc := 24) (as := [vI (-1000001)]) (rest := []) (lo' := [iR 80, iI ((-1000001))]) dM_edit_24 mO_M_finding lV_M_79 sh_80 (by decide) cl_11 rfl rfl rfl rfl rfl rfl ?_
      refine sp_M_finding (k := 1) (by decide) (by decide) (by decide) hS ?_
      show Wq 3 0 0 mM_edit 27 [iR 80, iI x1, iI x2, none] [vI (-1000001)] (sI M 83 1 (wr (gI M 83 1 + 1))) _
      refine wq_ireturn (pc := 27) dM_edit_27 trivial ?_
      exact H
  · have H := H.2 c2
    show Wq 3 0 0 mM_edit 6 [iR 80, iI x1, iI x2, none] [vI 0] M _
    refine wq_if_eq (pc := 6) (tgt := 21) dM_edit_6 (by decide) (fun _ => ?_) (fun q => absurd (by decide) q)
    refine wq_aload_n (pc := 21) dM_edit_21 rfl rfl ?_
    refine wq_ldc (pc := 22) (z := (-1000001)) dM_edit_22 kO_M_78 (by decide) ?_
    refine wq_callV (d' := 1) (pc := 24) (as := [vI (-1000001)]) (rest := []) (lo' := [iR 80, iI ((-1000001))]) dM_edit_24 mO_M_finding lV_M_79 sh_80 (by decide) cl_11 rfl rfl rfl rfl rfl rfl ?_
    refine sp_M_finding (k := 1) (by decide) (by decide) (by decide) hS ?_
    show Wq 3 0 0 mM_edit 27 [iR 80, iI x1, iI x2, none] [vI (-1000001)] (sI M 83 1 (wr (gI M 83 1 + 1))) _
    refine wq_ireturn (pc := 27) dM_edit_27 trivial ?_
    exact H

set_option maxRecDepth 20000 in
theorem B_M_edit_34 {x1 x2 y0 y1 : Int} {M : Mm} {Q : Mm → Option Mv → Prop} (hS : RefOK M) (H : ((y0 < y1 → (((0 ≤ 11 + 3 * x1 ∧ 11 + 3 * x1 < 1993) ∧ (0 ≤ 11 + 3 * x1 ∧ 11 + 3 * x1 < 1993)) ∧ Wq 1 0 0 mM_changed 0 [iR 80, none] [] (sI M 81 (11 + 3 * x1) x2) (fun M' v => Wq 3 0 0 mM_edit 68 [iR 80, iI x1, iI x2, iI (gI M 81 (11 + 3 * x1))] (v.toList ++ []) M' Q))) ∧ (¬ y0 < y1 → Q (sI M 83 3 (wr (gI M 83 3 + 1))) (some (vI (-1000003)))))) : Wq 3 0 0 mM_edit 34 [iR 80, iI x1, iI x2, none] [vI y0, vI y1] M Q := by
  refine wq_icmp_gt (pc := 34) (tgt := 44) dM_edit_34 (by decide) (fun c1 => ?_) (fun c1 => ?_)
  · have H := H.1 c1
    obtain ⟨⟨s2, s3⟩, H⟩ := H
    refine wq_aload_n (pc := 44) dM_edit_44 rfl rfl ?_
    refine wq_iload_n (pc := 45) dM_edit_45 rfl rfl ?_
    refine wq_callV (d' := 1) (pc := 46) (as := [vI x1]) (rest := []) (lo' := [iR 80, iI x1]) dM_edit_46 mO_M_longOf lV_M_95 sh_80 (by decide) cl_11 rfl rfl rfl rfl rfl rfl ?_
    refine sp_M_longOf hS s2 ?_
    show Wq 3 0 0 mM_edit 49 [iR 80, iI x1, iI x2, none] [vI (gI M 81 (11 + 3 * x1))] M _
    refine wq_istore_n (pc := 49) (lo' := [iR 80, iI x1, iI x2, iI (gI M 81 (11 + 3 * x1))]) dM_edit_49 rfl rfl rfl ?_
    refine wq_aload_n (pc := 50) dM_edit_50 rfl rfl ?_
    refine wq_getR (pc := 51) (z := 0) (b := 81) dM_edit_51 fO_M_9 sh_80 rfl rfl (rf_80_0 hS) ?_
    refine wq_bipush (pc := 54) dM_edit_54 rfl ?_
    refine wq_iconst (pc := 56) dM_edit_56 rfl ?_
    refine wq_iload_n (pc := 57) dM_edit_57 rfl rfl ?_
    refine wq_imul (pc := 58) dM_edit_58 ?_
    refine wq_iadd (pc := 59) dM_edit_59 ?_
    refine wq_iconst (pc := 60) dM_edit_60 rfl ?_
    refine wq_iadd (pc := 61) dM_edit_61 ?_
    refine wq_iload_n (pc := 62) dM_edit_62 rfl rfl ?_
    refine wq_re2 (x := (wr (wr (10 + wr (3 * x1)) + 1))) (y := (11 + 3 * x1)) (by (try simp only [wr_al, wr_ar, wr_sl, wr_sr, wr_ml, wr_mr, wr_nn, wr_ww]); exact Eq.trans (wr_eq (by omega) (by omega)) (by omega)) ?_
    refine wq_iast (pc := 63) dM_edit_63 sh_81 (by decide) s3.1 s3.2 ?_
    refine wq_aload_n (pc := 64) dM_edit_64 rfl rfl ?_
    refine wq_callV (d' := 1) (pc := 65) (as := []) (rest := []) (lo' := [iR 80, none]) dM_edit_65 mO_M_changed lV_M_64 sh_80 (by decide) cl_11 rfl rfl rfl rfl rfl rfl ?_
    exact H
  · have H := H.2 c1
    refine wq_aload_n (pc := 37) dM_edit_37 rfl rfl ?_
    refine wq_ldc (pc := 38) (z := (-1000003)) dM_edit_38 kO_M_101 (by decide) ?_
    refine wq_callV (d' := 1) (pc := 40) (as := [vI (-1000003)]) (rest := []) (lo' := [iR 80, iI ((-1000003))]) dM_edit_40 mO_M_finding lV_M_79 sh_80 (by decide) cl_11 rfl rfl rfl rfl rfl rfl ?_
    refine sp_M_finding (k := 3) (by decide) (by decide) (by decide) hS ?_
    show Wq 3 0 0 mM_edit 43 [iR 80, iI x1, iI x2, none] [vI (-1000003)] (sI M 83 3 (wr (gI M 83 3 + 1))) _
    refine wq_ireturn (pc := 43) dM_edit_43 trivial ?_
    exact H

set_option maxRecDepth 20000 in
theorem B_M_edit_68 {x1 x2 x3 : Int} {M : Mm} {Q : Mm → Option Mv → Prop} (H : Q M (some (vI x3))) : Wq 3 0 0 mM_edit 68 [iR 80, iI x1, iI x2, iI x3] [] M Q := by
  refine wq_iload_n (pc := 68) dM_edit_68 rfl rfl ?_
  refine wq_ireturn (pc := 69) dM_edit_69 trivial ?_
  exact H
set_option maxRecDepth 20000 in
theorem B_D_found_0 {x1 : Int} {M : Mm} {Q : Mm → Option Mv → Prop} (hS : RefOK M) (H : ((1 ≤ x1 ∧ x1 ≤ 5 → ((0 ≤ x1 ∧ x1 < 6) ∧ Q M (some (vI (gI M 69 x1))))) ∧ (¬ (1 ≤ x1 ∧ x1 ≤ 5) → Q (sI M 69 1 (wr (gI M 69 1 + 1))) (some (vI (-1000001)))))) : Wq 3 0 0 mD_found 0 [iR 0, iI x1] [] M Q := by
  refine wq_iload_n (pc := 0) dD_found_0 rfl rfl ?_
  refine wq_iconst (pc := 1) dD_found_1 rfl ?_
  refine wq_iconst (pc := 2) dD_found_2 rfl ?_
  refine wq_callS (d' := 1) (pc := 3) (as := [vI x1, vI 1, vI 5]) (rest := []) (lo' := [iI x1, iI 1, iI 5]) dD_found_3 mO_D_within lS_D_65 rfl rfl rfl rfl rfl rfl ?_
  refine sp_D_within (fun c1 => ?_) (fun c1 => ?_)
  · have H := H.1 c1
    show Wq 3 0 0 mD_found 6 [iR 0, iI x1] [vI 1] M _
    obtain ⟨s2, H⟩ := H
    refine wq_if_eq (pc := 6) (tgt := 18) dD_found_6 (by decide) (fun q => absurd q (by decide)) (fun _ => ?_)
    refine wq_aload_n (pc := 9) dD_found_9 rfl rfl ?_
    refine wq_getR (pc := 10) (z := 6) (b := 69) dD_found_10 fO_D_46 sh_0 rfl rfl (rf_0_6 hS) ?_
    refine wq_iload_n (pc := 13) dD_found_13 rfl rfl ?_
    refine wq_iald (pc := 14) dD_found_14 sh_69 s2.1 s2.2 ?_
    refine wq_goto (pc := 15) (tgt := 24) dD_found_15 (by decide) ?_
    refine wq_ireturn (pc := 24) dD_found_24 trivial ?_
    exact H
  · have H := H.2 c1
    show Wq 3 0 0 mD_found 6 [iR 0, iI x1] [vI 0] M _
    refine wq_if_eq (pc := 6) (tgt := 18) dD_found_6 (by decide) (fun _ => ?_) (fun q => absurd (by decide) q)
    refine wq_aload_n (pc := 18) dD_found_18 rfl rfl ?_
    refine wq_ldc (pc := 19) (z := (-1000001)) dD_found_19 kO_D_69 (by decide) ?_
    refine wq_callV (d' := 2) (pc := 21) (as := [vI (-1000001)]) (rest := []) (lo' := [iR 0, iI ((-1000001)), none]) dD_found_21 mO_D_finding lV_D_70 sh_0 (by decide) cl_10 rfl rfl rfl rfl rfl rfl ?_
    refine sp_D_finding (k := 1) (by decide) (by decide) (by decide) hS ?_
    show Wq 3 0 0 mD_found 24 [iR 0, iI x1] [vI (-1000001)] (sI M 69 1 (wr (gI M 69 1 + 1))) _
    refine wq_ireturn (pc := 24) dD_found_24 trivial ?_
    exact H
set_option maxRecDepth 20000 in
theorem B_M_found_0 {x1 : Int} {M : Mm} {Q : Mm → Option Mv → Prop} (hS : RefOK M) (H : ((1 ≤ x1 ∧ x1 ≤ 5 → ((0 ≤ x1 ∧ x1 < 6) ∧ Q M (some (vI (gI M 83 x1))))) ∧ (¬ (1 ≤ x1 ∧ x1 ≤ 5) → Q (sI M 83 1 (wr (gI M 83 1 + 1))) (some (vI (-1000001)))))) : Wq 2 0 0 mM_found 0 [iR 80, iI x1] [] M Q := by
  refine wq_iload_n (pc := 0) dM_found_0 rfl rfl ?_
  refine wq_i2l (pc := 1) dM_found_1 ?_
  refine wq_lconst (pc := 2) (x := 1) dM_found_2 rfl rfl ?_
  refine wq_ldc2 (pc := 3) (z := 5) dM_found_3 kO_M_74 (by decide) ?_
  refine wq_callS (d' := 1) (pc := 6) (as := [vL x1, vL 1, vL 5]) (rest := []) (lo' := [iL x1, none, iL 1, none, iL 5, none]) dM_found_6 mO_M_within lS_M_68 rfl rfl rfl rfl rfl rfl ?_
  refine sp_M_within (fun c1 => ?_) (fun c1 => ?_)
  · have H := H.1 c1
    show Wq 2 0 0 mM_found 9 [iR 80, iI x1] [vI 1] M _
    obtain ⟨s2, H⟩ := H
    refine wq_if_eq (pc := 9) (tgt := 21) dM_found_9 (by decide) (fun q => absurd q (by decide)) (fun _ => ?_)
    refine wq_aload_n (pc := 12) dM_found_12 rfl rfl ?_
    refine wq_getR (pc := 13) (z := 3) (b := 83) dM_found_13 fO_M_16 sh_80 rfl rfl (rf_80_3 hS) ?_
    refine wq_iload_n (pc := 16) dM_found_16 rfl rfl ?_
    refine wq_iald (pc := 17) dM_found_17 sh_83 s2.1 s2.2 ?_
    refine wq_goto (pc := 18) (tgt := 27) dM_found_18 (by decide) ?_
    refine wq_ireturn (pc := 27) dM_found_27 trivial ?_
    exact H
  · have H := H.2 c1
    show Wq 2 0 0 mM_found 9 [iR 80, iI x1] [vI 0] M _
    refine wq_if_eq (pc := 9) (tgt := 21) dM_found_9 (by decide) (fun _ => ?_) (fun q => absurd (by decide) q)
    refine wq_aload_n (pc := 21) dM_found_21 rfl rfl ?_
    refine wq_ldc (pc := 22) (z := (-1000001)) dM_found_22 kO_M_78 (by decide) ?_
    refine wq_callV (d' := 1) (pc := 24) (as := [vI (-1000001)]) (rest := []) (lo' := [iR 80, iI ((-1000001))]) dM_found_24 mO_M_finding lV_M_79 sh_80 (by decide) cl_11 rfl rfl rfl rfl rfl rfl ?_
    refine sp_M_finding (k := 1) (by decide) (by decide) (by decide) hS ?_
    show Wq 2 0 0 mM_found 27 [iR 80, iI x1] [vI (-1000001)] (sI M 83 1 (wr (gI M 83 1 + 1))) _
    refine wq_ireturn (pc := 27) dM_found_27 trivial ?_
    exact H
