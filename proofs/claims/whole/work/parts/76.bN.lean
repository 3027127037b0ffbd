set_option maxRecDepth 20000 in
theorem B_D_clause_0 {x1 x2 : Int} {M : Mm} {Q : Mm → Option Mv → Prop} (hS : RefOK M) (H : ((x1 = 0 ∨ x1 = 1 → ((0 ≤ x2 ∧ x2 ≤ 900 → ((gI M 20 6 < 10 → Wq 51 0 0 mR_read 0 [iR 63, iR 21, iI 0, iI (gI M 20 5), none] [] M (fun M' v => Wq 52 0 0 mD_clause 61 [iR 0, iI x1, iI x2, iR 20, none] (v.toList ++ []) M' Q)) ∧ (¬ gI M 20 6 < 10 → Q (sI M 69 4 (wr (gI M 69 4 + 1))) (some (vI (-1000004)))))) ∧ (¬ (0 ≤ x2 ∧ x2 ≤ 900) → Q (sI M 69 1 (wr (gI M 69 1 + 1))) (some (vI (-1000001)))))) ∧ (¬ (x1 = 0 ∨ x1 = 1) → Q (sI M 69 1 (wr (gI M 69 1 + 1))) (some (vI (-1000001)))))) : Wq 52 0 0 mD_clause 0 [iR 0, iI x1, iI x2, none, none] [] M Q := by
  refine wq_aload_n (pc := 0) dD_clause_0 rfl rfl ?_
  refine wq_getR (pc := 1) (z := 0) (b := 1) dD_clause_1 fO_D_12 sh_0 rfl rfl (rf_0_0 hS) ?_
  refine wq_getR (pc := 4) (z := 3) (b := 20) dD_clause_4 fO_D_227 sh_1 rfl rfl (rf_1_3 hS) ?_
  refine wq_astore_n (pc := 7) (lo' := [iR 0, iI x1, iI x2, iR 20, none]) dD_clause_7 rfl rfl rfl ?_
  refine wq_iload_n (pc := 8) dD_clause_8 rfl rfl ?_
  refine wq_callS (d' := 1) (pc := 9) (as := [vI x1]) (rest := []) (lo' := [iI x1]) dD_clause_9 mO_D_isUse lS_D_240 rfl rfl rfl rfl rfl rfl ?_
  refine sp_D_isUse (fun c1 => ?_) (fun c1 => ?_)
  · have H := H.1 c1
    show Wq 52 0 0 mD_clause 12 [iR 0, iI x1, iI x2, iR 20, none] [vI 1] M _
    refine wq_if_eq (pc := 12) (tgt := 22) dD_clause_12 (by decide) (fun q => absurd q (by decide)) (fun _ => ?_)
    refine wq_iload_n (pc := 15) dD_clause_15 rfl rfl ?_
    refine wq_callS (d' := 2) (pc := 16) (as := [vI x2]) (rest := []) (lo' := [iI x2]) dD_clause_16 mO_D_isDay lS_D_180 rfl rfl rfl rfl rfl rfl ?_
    refine sp_D_isDay (fun c2 => ?_) (fun c2 => ?_)
    · have H := H.1 c2
      show Wq 52 0 0 mD_clause 19 [iR 0, iI x1, iI x2, iR 20, none] [vI 1] M _
      refine wq_if_ne (pc := 19) (tgt := 29) dD_clause_19 (by decide) (fun _ => ?_) (fun q => absurd q (by decide))
      refine wq_aload_n (pc := 29) dD_clause_29 rfl rfl ?_
      refine wq_getI (pc := 30) (z := 6) dD_clause_30 fO_D_243 sh_20 rfl rfl ?_
      refine wq_bipush (pc := 33) dD_clause_33 rfl ?_
      refine wq_icmp_lt (pc := 35) (tgt := 45) dD_clause_35 (by decide) (fun c3 => ?_) (fun c3 => ?_)
      · have H := H.1 c3
        refine wq_aload_n (pc := 45) dD_clause_45 rfl rfl ?_
        refine wq_getR (pc := 46) (z := 3) (b := 63) dD_clause_46 fO_D_29 sh_0 rfl rfl (rf_0_3 hS) ?_
        refine wq_aload_n (pc := 49) dD_clause_49 rfl rfl ?_
        refine wq_getR (pc := 50) (z := 0) (b := 21) dD_clause_50 fO_D_244 sh_20 rfl rfl (rf_20_0 hS) ?_
        refine wq_iconst (pc := 53) dD_clause_53 rfl ?_
        refine wq_aload_n (pc := 54) dD_clause_54 rfl rfl ?_
        refine wq_getI (pc := 55) (z := 5) dD_clause_55 fO_D_231 sh_20 rfl rfl ?_
        refine wq_callV (d' := 51) (pc := 58) (as := [vR 21, vI 0, vI (gI M 20 5)]) (rest := []) (lo' := [iR 63, iR 21, iI 0, iI (gI M 20 5), none]) dD_clause_58 mO_R_read lV_D_248 sh_63 (by decide) cl_5 rfl rfl rfl rfl rfl rfl ?_
        exact H
      · have H := H.2 c3
        refine wq_aload_n (pc := 38) dD_clause_38 rfl rfl ?_
        refine wq_ldc (pc := 39) (z := (-1000004)) dD_clause_39 kO_D_83 (by decide) ?_
        refine wq_callV (d' := 2) (pc := 41) (as := [vI (-1000004)]) (rest := []) (lo' := [iR 0, iI ((-1000004)), none]) dD_clause_41 mO_D_finding lV_D_70 sh_0 (by decide) cl_10 rfl rfl rfl rfl rfl rfl ?_
        refine sp_D_finding (k := 4) (by decide) (by decide) (by decide) hS ?_
        show Wq 52 0 0 mD_clause 44 [iR 0, iI x1, iI x2, iR 20, none] [vI (-1000004)] (sI M 69 4 (wr (gI M 69 4 + 1))) _
        refine wq_ireturn (pc := 44) dD_clause_44 trivial ?_
        exact H
    · have H := H.2 c2
      show Wq 52 0 0 mD_clause 19 [iR 0, iI x1, iI x2, iR 20, none] [vI 0] M _
      refine wq_if_ne (pc := 19) (tgt := 29) dD_clause_19 (by decide) (fun q => absurd q (by decide)) (fun _ => ?_)
      refine wq_aload_n (pc := 22) dD_clause_22 rfl rfl ?_
      refine wq_ldc (pc := 23) (z := (-1000001)) dD_clause_23 kO_D_69 (by decide) ?_
      refine wq_callV (d' := 2) (pc := 25) (as := [vI (-1000001)]) (rest := []) (lo' := [iR 0, iI ((-1000001)), none]) dD_clause_25 mO_D_finding lV_D_70 sh_0 (by decide) cl_10 rfl rfl rfl rfl rfl rfl ?_
      refine sp_D_finding (k := 1) (by decide) (by decide) (by decide) hS ?_
      show Wq 52 0 0 mD_clause 28 [iR 0, iI x1, iI x2, iR 20, none] [vI (-1000001)] (sI M 69 1 (wr (gI M 69 1 + 1))) _
      refine wq_ireturn (pc := 28) dD_clause_28 trivial ?_
      exact H
  · have H := H.2 c1
    show Wq 52 0 0 mD_clause 12 [iR 0, iI x1, iI x2, iR 20, none] [vI 0] M _
    refine wq_if_eq (pc := 12) (tgt := 22) dD_clause_12 (by decide) (fun _ => ?_) (fun q => absurd (by decide) q)
    refine wq_aload_n (pc := 22) dD_clause_22 rfl rfl ?_
    refine wq_ldc (pc := 23) (z := (-1000001)) dD_clause_23 kO_D_69 (by decide) ?_
    refine wq_callV (d' := 2) (pc := 25) (as := [vI (-1000001)]) (rest := []) (lo' := [iR 0, iI ((-1000001)), none]) dD_clause_25 mO_D_finding lV_D_70 sh_0 (by decide) cl_10 rfl rfl rfl rfl rfl rfl ?_
    refine sp_D_finding (k := 1) (by decide) (by decide) (by decide) hS ?_
    show Wq 52 0 0 mD_clause 28 [iR 0, iI x1, iI x2, iR 20, none] [vI (-1000001)] (sI M 69 1 (wr (gI M 69 1 + 1))) _
    refine wq_ireturn (pc := 28) dD_clause_28 trivial ?_
    exact H

set_option maxRecDepth 20000 in
theorem B_D_clause_61 {x1 x2 y0 : Int} {M : Mm} {Q : Mm → Option Mv → Prop} (hS : RefOK M) (H : Wq 1 0 0 mR_fault 0 [iR 63] [] M (fun M' v => Wq 52 0 0 mD_clause 69 [iR 0, iI x1, iI x2, iR 20, none] (v.toList ++ []) M' Q)) : Wq 52 0 0 mD_clause 61 [iR 0, iI x1, iI x2, iR 20, none] [vI y0] M Q := by
  refine wq_pop (pc := 61) dD_clause_61 rfl ?_
  refine wq_aload_n (pc := 62) dD_clause_62 rfl rfl ?_
  refine wq_getR (pc := 63) (z := 3) (b := 63) dD_clause_63 fO_D_29 sh_0 rfl rfl (rf_0_3 hS) ?_
  refine wq_callV (d' := 1) (pc := 66) (as := []) (rest := []) (lo' := [iR 63]) dD_clause_66 mO_R_fault lV_D_252 sh_63 (by decide) cl_5 rfl rfl rfl rfl rfl rfl ?_
  exact H

set_option maxRecDepth 20000 in
theorem B_D_clause_69 {x1 x2 y0 : Int} {M : Mm} {Q : Mm → Option Mv → Prop} (H : ((y0 < 0 → Wq 1 0 0 mC_add 0 [iR 20, iI x1, iI x2] [] M (fun M' v => Wq 52 0 0 mD_clause 93 [iR 0, iI x1, iI x2, iR 20, iI y0] (v.toList ++ []) M' Q)) ∧ (¬ y0 < 0 → ((-2147483648 ≤ (-10) - y0 ∧ (-10) - y0 < 2147483648) ∧ Q (sI M 20 5 0) (some (vI ((-10) - y0))))))) : Wq 52 0 0 mD_clause 69 [iR 0, iI x1, iI x2, iR 20, none] [vI y0] M Q := by
  refine wq_istore (pc := 69) (lo' := [iR 0, iI x1, iI x2, iR 20, iI y0]) dD_clause_69 rfl rfl ?_
  refine wq_iload (pc := 71) dD_clause_71 rfl ?_
  refine wq_if_lt (pc := 73) (tgt := 87) dD_clause_73 (by decide) (fun c1 => ?_) (fun c1 => ?_)
  · have H := H.1 c1
    refine wq_aload_n (pc := 87) dD_clause_87 rfl rfl ?_
    refine wq_iload_n (pc := 88) dD_clause_88 rfl rfl ?_
    refine wq_iload_n (pc := 89) dD_clause_89 rfl rfl ?_
    refine wq_callV (d' := 1) (pc := 90) (as := [vI x1, vI x2]) (rest := []) (lo' := [iR 20, iI x1, iI x2]) dD_clause_90 mO_C_add lV_D_256 sh_20 (by decide) cl_0 rfl rfl rfl rfl rfl rfl ?_
    exact H
  · have H := H.2 c1
    obtain ⟨s2, H⟩ := H
    refine wq_aload_n (pc := 76) dD_clause_76 rfl rfl ?_
    refine wq_iconst (pc := 77) dD_clause_77 rfl ?_
    refine wq_putI (pc := 78) (z := 5) dD_clause_78 fW_D_231 sh_20 rfl rfl ?_
    refine wq_bipush (pc := 81) dD_clause_81 rfl ?_
    refine wq_iload (pc := 83) dD_clause_83 rfl ?_
    refine wq_isub (pc := 85) dD_clause_85 ?_
    refine wq_re (x := (wr ((-10) - y0))) (y := ((-10) - y0)) (Eq.trans (wr_eq (by omega) (by omega)) (by omega)) ?_
    refine wq_ireturn (pc := 86) dD_clause_86 trivial ?_
    exact H

set_option maxRecDepth 20000 in
theorem B_D_clause_93 {x1 x2 x4 y0 : Int} {M : Mm} {Q : Mm → Option Mv → Prop} (H : Q M (some (vI y0))) : Wq 52 0 0 mD_clause 93 [iR 0, iI x1, iI x2, iR 20, iI x4] [vI y0] M Q := by
  refine wq_ireturn (pc := 93) dD_clause_93 trivial ?_
  exact H
set_option maxRecDepth 20000 in
theorem B_C_add_0 {x1 x2 : Int} {M : Mm} {Q : Mm → Option Mv → Prop} (hS : RefOK M) (H : (((-2147483648 ≤ gI M 20 6 * 60 ∧ gI M 20 6 * 60 < 2147483648) ∧ ((0 : Int) ≤ 0 ∧ 0 ≤ gI M 20 6 * 60 ∧ 0 ≤ gI M 20 5 ∧ gI M 20 5 ≤ 60 ∧ gI M 20 6 * 60 + gI M 20 5 ≤ 600) ∧ (0 ≤ gI M 20 6 ∧ gI M 20 6 < 10) ∧ (-2147483648 ≤ gI M 20 6 + 1 ∧ gI M 20 6 + 1 < 2147483648) ∧ (-2147483648 ≤ gI M 20 6 ∧ gI M 20 6 < 2147483648)) ∧ Q (sI (sI (sI (sI (sI (cI M 21 0 22 (gI M 20 6 * 60) (gI M 20 5)) 23 (gI M 20 6) (gI M 20 5)) 24 (gI M 20 6) x1) 25 (gI M 20 6) x2) 20 5 0) 20 6 (gI M 20 6 + 1)) (some (vI (gI M 20 6))))) : Wq 1 0 0 mC_add 0 [iR 20, iI x1, iI x2] [] M Q := by
  obtain ⟨⟨s1, s2, s3, s4, s5⟩, H⟩ := H
  refine wq_aload_n (pc := 0) dC_add_0 rfl rfl ?_
  refine wq_getR (pc := 1) (z := 0) (b := 21) dC_add_1 fO_C_9 sh_20 rfl rfl (rf_20_0 hS) ?_
  refine wq_iconst (pc := 4) dC_add_4 rfl ?_
  refine wq_aload_n (pc := 5) dC_add_5 rfl rfl ?_
  refine wq_getR (pc := 6) (z := 1) (b := 22) dC_add_6 fO_C_15 sh_20 rfl rfl (rf_20_1 hS) ?_
  refine wq_aload_n (pc := 9) dC_add_9 rfl rfl ?_
  refine wq_getI (pc := 10) (z := 6) dC_add_10 fO_C_32 sh_20 rfl rfl ?_
  refine wq_bipush (pc := 13) dC_add_13 rfl ?_
  refine wq_imul (pc := 15) dC_add_15 ?_
  refine wq_aload_n (pc := 16) dC_add_16 rfl rfl ?_
  refine wq_getI (pc := 17) (z := 5) dC_add_17 fO_C_28 sh_20 rfl rfl ?_
  refine wq_re2 (x := (wr (gI M 20 6 * 60))) (y := (gI M 20 6 * 60)) (Eq.trans (wr_eq (by omega) (by omega)) (by omega)) ?_
  refine wq_cpI (pc := 20) dC_add_20 aC_C_35 (Or.inr ⟨sh_21, sh_22⟩) (by decide) (by decide) s2.1 s2.2.1 s2.2.2.1 (by have := s2; omega) (by have := s2; omega) rfl ?_
  refine wq_aload_n (pc := 23) dC_add_23 rfl rfl ?_
  refine wq_getR (pc := 24) (z := 2) (b := 23) dC_add_24 fO_C_18 sh_20 rfl rfl (rf_20_2 hS) ?_
  refine wq_aload_n (pc := 27) dC_add_27 rfl rfl ?_
  refine wq_getI (pc := 28) (z := 6) dC_add_28 fO_C_32 sh_20 rfl rfl ?_
  refine wq_re (x := (gI (cI M 21 0 22 (gI M 20 6 * 60) (gI M 20 5)) 20 6)) (y := (gI M 20 6)) rfl ?_
  refine wq_aload_n (pc := 31) dC_add_31 rfl rfl ?_
  refine wq_getI (pc := 32) (z := 5) dC_add_32 fO_C_28 sh_20 rfl rfl ?_
  refine wq_re (x := (gI (cI M 21 0 22 (gI M 20 6 * 60) (gI M 20 5)) 20 5)) (y := (gI M 20 5)) rfl ?_
  refine wq_iast (pc := 35) dC_add_35 sh_23 (by decide) s3.1 s3.2 ?_
  refine wq_aload_n (pc := 36) dC_add_36 rfl rfl ?_
  refine wq_getR (pc := 37) (z := 3) (b := 24) dC_add_37 fO_C_22 sh_20 rfl rfl (rf_20_3 hS) ?_
  refine wq_aload_n (pc := 40) dC_add_40 rfl rfl ?_
  refine wq_getI (pc := 41) (z := 6) dC_add_41 fO_C_32 sh_20 rfl rfl ?_
  refine wq_re (x := (gI (sI (cI M 21 0 22 (gI M 20 6 * 60) (gI M 20 5)) 23 (gI M 20 6) (gI M 20 5)) 20 6)) (y := (gI M 20 6)) rfl ?_
  refine wq_iload_n (pc := 44) dC_add_44 rfl rfl ?_
  refine wq_iast (pc := 45) dC_add_45 sh_24 (by decide) s3.1 s3.2 ?_
  refine wq_aload_n (pc := 46) dC_add_46 rfl rfl ?_
  refine wq_getR (pc := 47) (z := 4) (b := 25) dC_add_47 fO_C_25 sh_20 rfl rfl (rf_20_4 hS) ?_
  refine wq_aload_n (pc := 50) dC_add_50 rfl rfl ?_
  refine wq_getI (pc := 51) (z := 6) dC_add_51 fO_C_32 sh_20 rfl rfl ?_
  refine wq_re (x := (gI (sI (sI (cI M 21 0 22 (gI M 20 6 * 60) (gI M 20 5)) 23 (gI M 20 6) (gI M 20 5)) 24 (gI M 20 6) x1) 20 6)) (y := (gI M 20 6)) rfl ?_
  refine wq_iload_n (pc := 54) dC_add_54 rfl rfl ?_
  refine wq_iast (pc := 55) dC_add_55 sh_25 (by decide) s3.1 s3.2 ?_
  refine wq_aload_n (pc := 56) dC_add_56 rfl rfl ?_
  refine wq_iconst (pc := 57) dC_add_57 rfl ?_
  refine wq_putI (pc := 58) (z := 5) dC_add_58 fW_C_28 sh_20 rfl rfl ?_
  refine wq_aload_n (pc := 61) dC_add_61 rfl rfl ?_
  refine wq_dup (pc := 62) dC_add_62 rfl ?_
  refine wq_getI (pc := 63) (z := 6) dC_add_63 fO_C_32 sh_20 rfl rfl ?_
  refine wq_re (x := (gI (sI (sI (sI (sI (cI M 21 0 22 (gI M 20 6 * 60) (gI M 20 5)) 23 (gI M 20 6) (gI M 20 5)) 24 (gI M 20 6) x1) 25 (gI M 20 6) x2) 20 5 0) 20 6)) (y := (gI M 20 6)) rfl ?_
  refine wq_iconst (pc := 66) dC_add_66 rfl ?_
  refine wq_iadd (pc := 67) dC_add_67 ?_
  refine wq_re (x := (wr (gI M 20 6 + 1))) (y := (gI M 20 6 + 1)) (Eq.trans (wr_eq (by omega) (by omega)) (by omega)) ?_
  refine wq_putI (pc := 68) (z := 6) dC_add_68 fW_C_32 sh_20 rfl rfl ?_
  refine wq_aload_n (pc := 71) dC_add_71 rfl rfl ?_
  refine wq_getI (pc := 72) (z := 6) dC_add_72 fO_C_32 sh_20 rfl rfl ?_
  refine wq_re (x := (gI (sI (sI (sI (sI (sI (cI M 21 0 22 (gI M 20 6 * 60) (gI M 20 5)) 23 (gI M 20 6) (gI M 20 5)) 24 (gI M 20 6) x1) 25 (gI M 20 6) x2) 20 5 0) 20 6 (gI M 20 6 + 1)) 20 6)) (y := (gI M 20 6 + 1)) rfl ?_
  refine wq_iconst (pc := 75) dC_add_75 rfl ?_
  refine wq_isub (pc := 76) dC_add_76 ?_
  refine wq_re (x := (wr (gI M 20 6 + 1 - 1))) (y := (gI M 20 6)) (Eq.trans (wr_eq (by omega) (by omega)) (by omega)) ?_
  refine wq_ireturn (pc := 77) dC_add_77 trivial ?_
  exact H
set_option maxRecDepth 20000 in
theorem B_C_inForce_0 {x1 x2 : Int} {M : Mm} {Q : Mm → Option Mv → Prop} (H : ((-2147483648 ≤ gI M 20 6 - 1 ∧ gI M 20 6 - 1 < 2147483648) ∧ Wq 1 0 0 mC_inForce 7 [iR 20, iI x1, iI x2, iI (gI M 20 6 - 1)] [] M Q)) : Wq 1 0 0 mC_inForce 0 [iR 20, iI x1, iI x2, none] [] M Q := by
  obtain ⟨s1, H⟩ := H
  refine wq_aload_n (pc := 0) dC_inForce_0 rfl rfl ?_
  refine wq_getI (pc := 1) (z := 6) dC_inForce_1 fO_C_32 sh_20 rfl rfl ?_
  refine wq_iconst (pc := 4) dC_inForce_4 rfl ?_
  refine wq_isub (pc := 5) dC_inForce_5 ?_
  refine wq_re (x := (wr (gI M 20 6 - 1))) (y := (gI M 20 6 - 1)) (Eq.trans (wr_eq (by omega) (by omega)) (by omega)) ?_
  refine wq_istore_n (pc := 6) (lo' := [iR 20, iI x1, iI x2, iI (gI M 20 6 - 1)]) dC_inForce_6 rfl rfl rfl ?_
  exact H

set_option maxRecDepth 20000 in
theorem B_C_inForce_7 {x1 x2 x3 : Int} {M : Mm} {Q : Mm → Option Mv → Prop} (hS : RefOK M) (H : ((x3 < 0 → Q M (some (vI (-1)))) ∧ (¬ x3 < 0 → ((0 ≤ x3 ∧ x3 < 10) ∧ ((¬ gI M 24 x3 = x1 → ((-2147483648 ≤ x3 - 1 ∧ x3 - 1 < 2147483648) ∧ Wq 1 0 0 mC_inForce 7 [iR 20, iI x1, iI x2, iI (x3 - 1)] [] M Q)) ∧ (gI M 24 x3 = x1 → ((x2 < gI M 25 x3 → ((-2147483648 ≤ x3 - 1 ∧ x3 - 1 < 2147483648) ∧ Wq 1 0 0 mC_inForce 7 [iR 20, iI x1, iI x2, iI (x3 - 1)] [] M Q)) ∧ (¬ x2 < gI M 25 x3 → Q M (some (vI x3)))))))))) : Wq 1 0 0 mC_inForce 7 [iR 20, iI x1, iI x2, iI x3] [] M Q := by
  refine wq_iload_n (pc := 7) dC_inForce_7 rfl rfl ?_
  refine wq_if_lt (pc := 8) (tgt := 39) dC_inForce_8 (by decide) (fun c1 => ?_) (fun c1 => ?_)
  · have H := H.1 c1
    refine wq_iconst (pc := 39) dC_inForce_39 rfl ?_
    refine wq_ireturn (pc := 40) dC_inForce_40 trivial ?_
    exact H
  · have H := H.2 c1
    obtain ⟨s2, H⟩ := H
    refine wq_aload_n (pc := 11) dC_inForce_11 rfl rfl ?_
    refine wq_getR (pc := 12) (z := 3) (b := 24) dC_inForce_12 fO_C_22 sh_20 rfl rfl (rf_20_3 hS) ?_
    refine wq_iload_n (pc := 15) dC_inForce_15 rfl rfl ?_
    refine wq_iald (pc := 16) dC_inForce_16 sh_24 s2.1 s2.2 ?_
    refine wq_iload_n (pc := 17) dC_inForce_17 rfl rfl ?_
    refine wq_icmp_ne (pc := 18) (tgt := 33) dC_inForce_18 (by decide) (fun c3 => ?_) (fun c3 => ?_)
    · have H := H.1 c3
      obtain ⟨s4, H⟩ := H
      refine wq_iinc (pc := 33) (lo' := [iR 20, iI x1, iI x2, iI (x3 - 1)]) dC_inForce_33 rfl rfl (by rw [show wr (x3 + (-1)) = x3 - 1 from (Eq.trans (wr_eq (by omega) (by omega)) (by omega))]; rfl) ?_
      refine wq_goto (pc := 36) (tgt := 7) dC_inForce_36 (by decide) ?_
      exact H
    · have H := H.2 c3
      refine wq_aload_n (pc := 21) dC_inForce_21 rfl rfl ?_
      refine wq_getR (pc := 22) (z := 4) (b := 25) dC_inForce_22 fO_C_25 sh_20 rfl rfl (rf_20_4 hS) ?_
      refine wq_iload_n (pc := 25) dC_inForce_25 rfl rfl ?_
      refine wq_iald (pc := 26) dC_inForce_26 sh_25 s2.1 s2.2 ?_
      refine wq_iload_n (pc := 27) dC_inForce_27 rfl rfl ?_
      refine wq_icmp_gt (pc := 28) (tgt := 33) dC_inForce_28 (by decide) (fun c5 => ?_) (fun c5 => ?_)
      · have H := H.1 c5
        obtain ⟨s6, H⟩ := H
        refine wq_iinc (pc := 33) (lo' := [iR 20, iI x1, iI x2, iI (x3 - 1)]) dC_inForce_33 rfl rfl (by rw [show wr (x3 + (-1)) = x3 - 1 from (Eq.trans (wr_eq (by omega) (by omega)) (by omega))]; rfl) ?_
        refine wq_goto (pc := 36) (tgt := 7) dC_inForce_36 (by decide) ?_
        exact H
      · have H := H.2 c5
        refine wq_iload_n (pc := 31) dC_inForce_31 rfl rfl ?_
        refine wq_ireturn (pc := 32) dC_inForce_32 trivial ?_
        exact H
set_option maxRecDepth 20000 in
theorem B_C_mentions_0 {x1 x2 : Int} {M : Mm} {Q : Mm → Option Mv → Prop} (H : Wq 1 0 0 mC_mentions 2 [iR 20, iI x1, iI x2, iI 0] [] M Q) : Wq 1 0 0 mC_mentions 0 [iR 20, iI x1, iI x2, none] [] M Q := by
  refine wq_iconst (pc := 0) dC_mentions_0 rfl ?_
  refine wq_istore_n (pc := 1) (lo' := [iR 20, iI x1, iI x2, iI 0]) dC_mentions_1 rfl rfl rfl ?_
  exact H

set_option maxRecDepth 20000 in
theorem B_C_mentions_2 {x1 x2 x3 : Int} {M : Mm} {Q : Mm → Option Mv → Prop} (hS : RefOK M) (H : ((0 ≤ x1 ∧ x1 < 10) ∧ ((gI M 23 x1 ≤ x3 → Q M (some (vI 0))) ∧ (¬ gI M 23 x1 ≤ x3 → ((0 ≤ x1 * 60 + x3 ∧ x1 * 60 + x3 < 600) ∧ ((¬ gI M 22 (x1 * 60 + x3) = x2 → ((-2147483648 ≤ x3 + 1 ∧ x3 + 1 < 2147483648) ∧ Wq 1 0 0 mC_mentions 2 [iR 20, iI x1, iI x2, iI (x3 + 1)] [] M Q)) ∧ (gI M 22 (x1 * 60 + x3) = x2 → Q M (some (vI 1))))))))) : Wq 1 0 0 mC_mentions 2 [iR 20, iI x1, iI x2, iI x3] [] M Q := by
  obtain ⟨s1, H⟩ := H
  refine wq_iload_n (pc := 2) dC_mentions_2 rfl rfl ?_
  refine wq_aload_n (pc := 3) dC_mentions_3 rfl rfl ?_
  refine wq_getR (pc := 4) (z := 2) (b := 23) dC_mentions_4 fO_C_18 sh_20 rfl rfl (rf_20_2 hS) ?_
  refine wq_iload_n (pc := 7) dC_mentions_7 rfl rfl ?_
  refine wq_iald (pc := 8) dC_mentions_8 sh_23 s1.1 s1.2 ?_
  refine wq_icmp_ge (pc := 9) (tgt := 35) dC_mentions_9 (by decide) (fun c2 => ?_) (fun c2 => ?_)
  · have H := H.1 c2
    refine wq_iconst (pc := 35) dC_mentions_35 rfl ?_
    refine wq_ireturn (pc := 36) dC_mentions_36 (Or.inl rfl) ?_
    exact H
  · have H := H.2 c2
    obtain ⟨s3, H⟩ := H
    refine wq_aload_n (pc := 12) dC_mentions_12 rfl rfl ?_
    refine wq_getR (pc := 13) (z := 1) (b := 22) dC_mentions_13 fO_C_15 sh_20 rfl rfl (rf_20_1 hS) ?_
    refine wq_iload_n (pc := 16) dC_mentions_16 rfl rfl ?_
    refine wq_bipush (pc := 17) dC_mentions_17 rfl ?_
    refine wq_imul (pc := 19) dC_mentions_19 ?_
    refine wq_iload_n (pc := 20) dC_mentions_20 rfl rfl ?_
    refine wq_iadd (pc := 21) dC_mentions_21 ?_
    refine wq_re (x := (wr (wr (x1 * 60) + x3))) (y := (x1 * 60 + x3)) (by (try simp only [wr_al, wr_ar, wr_sl, wr_sr, wr_ml, wr_mr, wr_nn, wr_ww]); exact Eq.trans (wr_eq (by omega) (by omega)) (by omega)) ?_
    refine wq_bald (pc := 22) dC_mentions_22 sh_22 s3.1 s3.2 ?_
    refine wq_iload_n (pc := 23) dC_mentions_23 rfl rfl ?_
    refine wq_icmp_ne (pc := 24) (tgt := 29) dC_mentions_24 (by decide) (fun c4 => ?_) (fun c4 => ?_)
    · have H := H.1 c4
      obtain ⟨s5, H⟩ := H
      refine wq_iinc (pc := 29) (lo' := [iR 20, iI x1, iI x2, iI (x3 + 1)]) dC_mentions_29 rfl rfl (by rw [show wr (x3 + 1) = x3 + 1 from (Eq.trans (wr_eq (by omega) (by omega)) (by omega))]; rfl) ?_
      refine wq_goto (pc := 32) (tgt := 2) dC_mentions_32 (by decide) ?_
      exact H
    · have H := H.2 c4
      refine wq_iconst (pc := 27) dC_mentions_27 rfl ?_
      refine wq_ireturn (pc := 28) dC_mentions_28 (Or.inr rfl) ?_
      exact H
set_option maxRecDepth 20000 in
theorem B_D_force_0 {x1 x2 : Int} {M : Mm} {Q : Mm → Option Mv → Prop} (hS : RefOK M) (H : ((x1 = 0 ∨ x1 = 1 → ((0 ≤ x2 ∧ x2 < gI M 12 7 → ((0 ≤ x2 ∧ x2 < 20) ∧ Wq 1 0 0 mC_inForce 0 [iR 20, iI x1, iI (gI M 15 x2), none] [] M (fun M' v => Wq 3 0 0 mD_force 51 [iR 0, iI x1, iI x2, none] (v.toList ++ []) M' Q))) ∧ (¬ (0 ≤ x2 ∧ x2 < gI M 12 7) → Q (sI M 69 1 (wr (gI M 69 1 + 1))) (some (vI (-1000001)))))) ∧ (¬ (x1 = 0 ∨ x1 = 1) → Q (sI M 69 1 (wr (gI M 69 1 + 1))) (some (vI (-1000001)))))) : Wq 3 0 0 mD_force 0 [iR 0, iI x1, iI x2, none] [] M Q := by
  refine wq_iload_n (pc := 0) dD_force_0 rfl rfl ?_
  refine wq_callS (d' := 1) (pc := 1) (as := [vI x1]) (rest := []) (lo' := [iI x1]) dD_force_1 mO_D_isUse lS_D_240 rfl rfl rfl rfl rfl rfl ?_
  refine sp_D_isUse (fun c1 => ?_) (fun c1 => ?_)
  · have H := H.1 c1
    show Wq 3 0 0 mD_force 4 [iR 0, iI x1, iI x2, none] [vI 1] M _
    refine wq_if_eq (pc := 4) (tgt := 21) dD_force_4 (by decide) (fun q => absurd q (by decide)) (fun _ => ?_)
    refine wq_aload_n (pc := 7) dD_force_7 rfl rfl ?_
    refine wq_getR (pc := 8) (z := 0) (b := 1) dD_force_8 fO_D_12 sh_0 rfl rfl (rf_0_0 hS) ?_
    refine wq_getR (pc := 11) (z := 2) (b := 12) dD_force_11 fO_D_148 sh_1 rfl rfl (rf_1_2 hS) ?_
    refine wq_iload_n (pc := 14) dD_force_14 rfl rfl ?_
    refine wq_callV (d' := 1) (pc := 15) (as := [vI x2]) (rest := []) (lo' := [iR 12, iI x2]) dD_force_15 mO_E_has lV_D_158 sh_12 (by decide) cl_2 rfl rfl rfl rfl rfl rfl ?_
    refine sp_E_has (fun c2 => ?_) (fun c2 => ?_)
    · have H := H.1 c2
      show Wq 3 0 0 mD_force 18 [iR 0, iI x1, iI x2, none] [vI 1] M _
      obtain ⟨s3, H⟩ := H
      refine wq_if_ne (pc := 18) (tgt := 28) dD_force_18 (by decide) (fun _ => ?_) (fun q => absurd q (by decide))
      refine wq_aload_n (pc := 28) dD_force_28 rfl rfl ?_
      refine wq_getR (pc := 29) (z := 0) (b := 1) dD_force_29 fO_D_12 sh_0 rfl rfl (rf_0_0 hS) ?_
      refine wq_getR (pc := 32) (z := 3) (b := 20) dD_force_32 fO_D_227 sh_1 rfl rfl (rf_1_3 hS) ?_
      refine wq_iload_n (pc := 35) dD_force_35 rfl rfl ?_
      refine wq_aload_n (pc := 36) dD_force_36 rfl rfl ?_
      refine wq_getR (pc := 37) (z := 0) (b := 1) dD_force_37 fO_D_12 sh_0 rfl rfl (rf_0_0 hS) ?_
      refine wq_getR (pc := 40) (z := 2) (b := 12) dD_force_40 fO_D_148 sh_1 rfl rfl (rf_1_2 hS) ?_
      refine wq_getR (pc := 43) (z := 2) (b := 15) dD_force_43 fO_D_159 sh_12 rfl rfl (rf_12_2 hS) ?_
      refine wq_iload_n (pc := 46) dD_force_46 rfl rfl ?_
      refine wq_iald (pc := 47) dD_force_47 sh_15 s3.1 s3.2 ?_
      refine wq_callV (d' := 1) (pc := 48) (as := [vI x1, vI (gI M 15 x2)]) (rest := []) (lo' := [iR 20, iI x1, iI (gI M 15 x2), none]) dD_force_48 mO_C_inForce lV_D_263 sh_20 (by decide) cl_0 rfl rfl rfl rfl rfl rfl ?_
      exact H
    · have H := H.2 c2
      show Wq 3 0 0 mD_force 18 [iR 0, iI x1, iI x2, none] [vI 0] M _
      refine wq_if_ne (pc := 18) (tgt := 28) dD_force_18 (by decide) (fun q => absurd q (by decide)) (fun _ => ?_)
      refine wq_aload_n (pc := 21) dD_force_21 rfl rfl ?_
      refine wq_ldc (pc := 22) (z := (-1000001)) dD_force_22 kO_D_69 (by decide) ?_
      refine wq_callV (d' := 2) (pc := 24) (as := [vI (-1000001)]) (rest := []) (lo' := [iR 0, iI ((-1000001)), none]) dD_force_24 mO_D_finding lV_D_70 sh_0 (by decide) cl_10 rfl rfl rfl rfl rfl rfl ?_
      refine sp_D_finding (k := 1) (by decide) (by decide) (by decide) hS ?_
      show Wq 3 0 0 mD_force 27 [iR 0, iI x1, iI x2, none] [vI (-1000001)] (sI M 69 1 (wr (gI M 69 1 + 1))) _
      refine wq_ireturn (pc := 27) dD_force_27 trivial ?_
      exact H
  · have H := H.2 c1
    show Wq 3 0 0 mD_force 4 [iR 0, iI x1, iI x2, none] [vI 0] M _
    refine wq_if_eq (pc := 4) (tgt := 21) dD_force_4 (by decide) (fun _ => ?_) (fun q => absurd (by decide) q)
    refine wq_aload_n (pc := 21) dD_force_21 rfl rfl ?_
    refine wq_ldc (pc := 22) (z := (-1000001)) dD_force_22 kO_D_69 (by decide) ?_
    refine wq_callV (d' := 2) (pc := 24) (as := [vI (-1000001)]) (rest := []) (lo' := [iR 0, iI ((-1000001)), none]) dD_force_24 mO_D_finding lV_D_70 sh_0 (by decide) cl_10 rfl rfl rfl rfl rfl rfl ?_
    refine sp_D_finding (k := 1) (by decide) (by decide) (by decide) hS ?_
    show Wq 3 0 0 mD_force 27 [iR 0, iI x1, iI x2, none] [vI (-1000001)] (sI M 69 1 (wr (gI M 69 1 + 1))) _
    refine wq_ireturn (pc := 27) dD_force_27 trivial ?_
    exact H

set_option maxRecDepth 20000 in
theorem B_D_force_51 {x1 x2 y0 : Int} {M : Mm} {Q : Mm → Option Mv → Prop} (hS : RefOK M) (H : ((y0 < 0 → Q (sI M 69 2 (wr (gI M 69 2 + 1))) (some (vI (-1000002)))) ∧ (¬ y0 < 0 → Q M (some (vI y0))))) : Wq 3 0 0 mD_force 51 [iR 0, iI x1, iI x2, none] [vI y0] M Q := by
  refine wq_istore_n (pc := 51) (lo' := [iR 0, iI x1, iI x2, iI y0]) dD_force_51 rfl rfl rfl ?_
  refine wq_iload_n (pc := 52) dD_force_52 rfl rfl ?_
  refine wq_if_lt (pc := 53) (tgt := 60) dD_force_53 (by decide) (fun c1 => ?_) (fun c1 => ?_)
  · have H := H.1 c1
    refine wq_aload_n (pc := 60) dD_force_60 rfl rfl ?_
    refine wq_ldc (pc := 61) (z := (-1000002)) dD_force_61 kO_D_125 (by decide) ?_
    refine wq_callV (d' := 2) (pc := 63) (as := [vI (-1000002)]) (rest := []) (lo' := [iR 0, iI ((-1000002)), none]) dD_force_63 mO_D_finding lV_D_70 sh_0 (by decide) cl_10 rfl rfl rfl rfl rfl rfl ?_
    refine sp_D_finding (k := 2) (by decide) (by decide) (by decide) hS ?_
    show Wq 3 0 0 mD_force 66 [iR 0, iI x1, iI x2, iI y0] [vI (-1000002)] (sI M 69 2 (wr (gI M 69 2 + 1))) _
    refine wq_ireturn (pc := 66) dD_force_66 trivial ?_
    exact H
  · have H := H.2 c1
    refine wq_iload_n (pc := 56) dD_force_56 rfl rfl ?_
    refine wq_goto (pc := 57) (tgt := 66) dD_force_57 (by decide) ?_
    refine wq_ireturn (pc := 66) dD_force_66 trivial ?_
    exact H
set_option maxRecDepth 20000 in
theorem B_D_says_0 {x1 x2 : Int} {M : Mm} {Q : Mm → Option Mv → Prop} (hS : RefOK M) (H : ((x1 = 0 ∨ x1 = 1 → ((0 ≤ x2 ∧ x2 < gI M 12 7 → ((¬ x1 = 0 → Wq 53 0 0 mD_priceOf 0 [iR 0, iI x2, none] [] M (fun M' v => Wq 54 0 0 mD_says 45 [iR 0, iI x1, iI x2] (v.toList ++ []) M' Q)) ∧ (x1 = 0 → Wq 53 0 0 mD_riskOf 0 [iR 0, iI x2, none, none] [] M (fun M' v => Wq 54 0 0 mD_says 37 [iR 0, iI x1, iI x2] (v.toList ++ []) M' Q)))) ∧ (¬ (0 ≤ x2 ∧ x2 < gI M 12 7) → Q (sI M 69 1 (wr (gI M 69 1 + 1))) (some (vI (-1000001)))))) ∧ (¬ (x1 = 0 ∨ x1 = 1) → Q (sI M 69 1 (wr (gI M 69 1 + 1))) (some (vI (-1000001)))))) : Wq 54 0 0 mD_says 0 [iR 0, iI x1, iI x2] [] M Q := by
  refine wq_iload_n (pc := 0) dD_says_0 rfl rfl ?_
  refine wq_callS (d' := 1) (pc := 1) (as := [vI x1]) (rest := []) (lo' := [iI x1]) dD_says_1 mO_D_isUse lS_D_240 rfl rfl rfl rfl rfl rfl ?_
  refine sp_D_isUse (fun c1 => ?_) (fun c1 => ?_)
  · have H := H.1 c1
    show Wq 54 0 0 mD_says 4 [iR 0, iI x1, iI x2] [vI 1] M _
    refine wq_if_eq (pc := 4) (tgt := 21) dD_says_4 (by decide) (fun q => absurd q (by decide)) (fun _ => ?_)
    refine wq_aload_n (pc := 7) dD_says_7 rfl rfl ?_
    refine wq_getR (pc := 8) (z := 0) (b := 1) dD_says_8 fO_D_12 sh_0 rfl rfl (rf_0_0 hS) ?_
    refine wq_getR (pc := 11) (z := 2) (b := 12) dD_says_11 fO_D_148 sh_1 rfl rfl (rf_1_2 hS) ?_
    refine wq_iload_n (pc := 14) dD_says_14 rfl rfl ?_
    refine wq_callV (d' := 1) (pc := 15) (as := [vI x2]) (rest := []) (lo' := [iR 12, iI x2]) dD_says_15 mO_E_has lV_D_158 sh_12 (by decide) cl_2 rfl rfl rfl rfl rfl rfl ?_
    refine sp_E_has (fun c2 => ?_) (fun c2 => ?_)
    · have H := H.1 c2
      show Wq 54 0 0 mD_says 18 [iR 0, iI x1, iI x2] [vI 1] M _
      refine wq_if_ne (pc := 18) (tgt := 28) dD_says_18 (by decide) (fun _ => ?_) (fun q => absurd q (by decide))
      refine wq_iload_n (pc := 28) dD_says_28 rfl rfl ?_
      refine wq_if_ne (pc := 29) (tgt := 40) dD_says_29 (by decide) (fun c3 => ?_) (fun c3 => ?_)
      · have H := H.1 c3
        refine wq_aload_n (pc := 40) dD_says_40 rfl rfl ?_
        refine wq_iload_n (pc := 41) dD_says_41 rfl rfl ?_
        refine wq_callV (d' := 53) (pc := 42) (as := [vI x2]) (rest := []) (lo' := [iR 0, iI x2, none]) dD_says_42 mO_D_priceOf lV_D_260 sh_0 (by decide) cl_10 rfl rfl rfl rfl rfl rfl ?_
        exact H
      · have H := H.2 c3
        refine wq_aload_n (pc := 32) dD_says_32 rfl rfl ?_
        refine wq_iload_n (pc := 33) dD_says_33 rfl rfl ?_
        refine wq_callV (d' := 53) (pc := 34) (as := [vI x2]) (rest := []) (lo' := [iR 0, iI x2, none, none]) dD_says_34 mO_D_riskOf lV_D_257 sh_0 (by decide) cl_10 rfl rfl rfl rfl rfl rfl ?_
        exact H
    · have H := H.2 c2
      show Wq 54 0 0 mD_says 18 [iR 0, iI x1, iI x2] [vI 0] M _
      refine wq_if_ne (pc := 18) (tgt := 28) dD_says_18 (by decide) (fun q => absurd q (by decide)) (fun _ => ?_)
      refine wq_aload_n (pc := 21) dD_says_21 rfl rfl ?_
      refine wq_ldc (pc := 22) (z := (-1000001)) dD_says_22 kO_D_69 (by decide) ?_
      refine wq_callV (d' := 2) (pc := 24) (as := [vI (-1000001)]) (rest := []) (lo' := [iR 0, iI ((-1000001)), none]) dD_says_24 mO_D_finding lV_D_70 sh_0 (by decide) cl_10 rfl rfl rfl rfl rfl rfl ?_
      refine sp_D_finding (k := 1) (by decide) (by decide) (by decide) hS ?_
      show Wq 54 0 0 mD_says 27 [iR 0, iI x1, iI x2] [vI (-1000001)] (sI M 69 1 (wr (gI M 69 1 + 1))) _
      refine wq_ireturn (pc := 27) dD_says_27 trivial ?_
      exact H
  · have H := H.2 c1
    show Wq 54 0 0 mD_says 4 [iR 0, iI x1, iI x2] [vI 0] M _
    refine wq_if_eq (pc := 4) (tgt := 21) dD_says_4 (by decide) (fun _ => ?_) (fun q => absurd (by decide) q)
    refine wq_aload_n (pc := 21) dD_says_21 rfl rfl ?_
    refine wq_ldc (pc := 22) (z := (-1000001)) dD_says_22 kO_D_69 (by decide) ?_
    refine wq_callV (d' := 2) (pc := 24) (as := [vI (-1000001)]) (rest := []) (lo' := [iR 0, iI ((-1000001)), none]) dD_says_24 mO_D_finding lV_D_70 sh_0 (by decide) cl_10 rfl rfl rfl rfl rfl rfl ?_
    refine sp_D_finding (k := 1) (by decide) (by decide) (by decide) hS ?_
    show Wq 54 0 0 mD_says 27 [iR 0, iI x1, iI x2] [vI (-1000001)] (sI M 69 1 (wr (gI M 69 1 + 1))) _
    refine wq_ireturn (pc := 27) dD_says_27 trivial ?_
    exact H

set_option maxRecDepth 20000 in
theorem B_D_says_37 {x1 x2 y0 : Int} {M : Mm} {Q : Mm → Option Mv → Prop} (H : Q M (some (vI y0))) : Wq 54 0 0 mD_says 37 [iR 0, iI x1, iI x2] [vI y0] M Q := by
  refine wq_goto (pc := 37) (tgt := 45) dD_says_37 (by decide) ?_
  refine wq_ireturn (pc := 45) dD_says_45 trivial ?_
  exact H

set_option maxRecDepth 20000 in
theorem B_D_says_45 {x1 x2 y0 : Int} {M : Mm} {Q : Mm → Option Mv → Prop} (H : Q M (some (vI y0))) : Wq 54 0 0 mD_says 45 [iR 0, iI x1, iI x2] [vI y0] M Q := by
  refine wq_ireturn (pc := 45) dD_says_45 trivial ?_
  exact H
set_option maxRecDepth 20000 in
theorem B_D_riskOf_0 {x1 : Int} {M : Mm} {Q : Mm → Option Mv → Prop} (hS : RefOK M) (H : ((0 ≤ x1 ∧ x1 < 20) ∧ Wq 1 0 0 mC_inForce 0 [iR 20, iI 0, iI (gI M 15 x1), none] [] M (fun M' v => Wq 53 0 0 mD_riskOf 23 [iR 0, iI x1, none, none] (v.toList ++ []) M' Q))) : Wq 53 0 0 mD_riskOf 0 [iR 0, iI x1, none, none] [] M Q := by
  obtain ⟨s1, H⟩ := H
  refine wq_aload_n (pc := 0) dD_riskOf_0 rfl rfl ?_
  refine wq_getR (pc := 1) (z := 0) (b := 1) dD_riskOf_1 fO_D_12 sh_0 rfl rfl (rf_0_0 hS) ?_
  refine wq_getR (pc := 4) (z := 3) (b := 20) dD_riskOf_4 fO_D_227 sh_1 rfl rfl (rf_1_3 hS) ?_
  refine wq_iconst (pc := 7) dD_riskOf_7 rfl ?_
  refine wq_aload_n (pc := 8) dD_riskOf_8 rfl rfl ?_
  refine wq_getR (pc := 9) (z := 0) (b := 1) dD_riskOf_9 fO_D_12 sh_0 rfl rfl (rf_0_0 hS) ?_
  refine wq_getR (pc := 12) (z := 2) (b := 12) dD_riskOf_12 fO_D_148 sh_1 rfl rfl (rf_1_2 hS) ?_
  refine wq_getR (pc := 15) (z := 2) (b := 15) dD_riskOf_15 fO_D_159 sh_12 rfl rfl (rf_12_2 hS) ?_
  refine wq_iload_n (pc := 18) dD_riskOf_18 rfl rfl ?_
  refine wq_iald (pc := 19) dD_riskOf_19 sh_15 s1.1 s1.2 ?_
  refine wq_callV (d' := 1) (pc := 20) (as := [vI 0, vI (gI M 15 x1)]) (rest := []) (lo' := [iR 20, iI 0, iI (gI M 15 x1), none]) dD_riskOf_20 mO_C_inForce lV_D_263 sh_20 (by decide) cl_0 rfl rfl rfl rfl rfl rfl ?_
  exact H

set_option maxRecDepth 20000 in
theorem B_D_riskOf_23 {x1 y0 : Int} {M : Mm} {Q : Mm → Option Mv → Prop} (hS : RefOK M) (H : ((y0 < 0 → ((0 ≤ x1 ∧ x1 < 20) ∧ ((¬ gI M 14 x1 = 0 → ((¬ gI M 14 x1 = 1 → Q M (some (vI 1))) ∧ (gI M 14 x1 = 1 → Q M (some (vI 0))))) ∧ (gI M 14 x1 = 0 → Q M (some (vI 2)))))) ∧ (¬ y0 < 0 → Wq 52 0 0 mD_valueOf 0 [iR 0, iI y0, iI x1, none, none] [] M (fun M' v => Wq 53 0 0 mD_riskOf 36 [iR 0, iI x1, iI y0, none] (v.toList ++ [vI 2, vI 0]) M' Q)))) : Wq 53 0 0 mD_riskOf 23 [iR 0, iI x1, none, none] [vI y0] M Q := by
  refine wq_istore_n (pc := 23) (lo' := [iR 0, iI x1, iI y0, none]) dD_riskOf_23 rfl rfl rfl ?_
  refine wq_iload_n (pc := 24) dD_riskOf_24 rfl rfl ?_
  refine wq_if_lt (pc := 25) (tgt := 43) dD_riskOf_25 (by decide) (fun c1 => ?_) (fun c1 => ?_)
  · have H := H.1 c1
    obtain ⟨s2, H⟩ := H
    refine wq_aload_n (pc := 43) dD_riskOf_43 rfl rfl ?_
    refine wq_getR (pc := 44) (z := 0) (b := 1) dD_riskOf_44 fO_D_12 sh_0 rfl rfl (rf_0_0 hS) ?_
    refine wq_getR (pc := 47) (z := 2) (b := 12) dD_riskOf_47 fO_D_148 sh_1 rfl rfl (rf_1_2 hS) ?_
    refine wq_getR (pc := 50) (z := 1) (b := 14) dD_riskOf_50 fO_D_174 sh_12 rfl rfl (rf_12_1 hS) ?_
    refine wq_iload_n (pc := 53) dD_riskOf_53 rfl rfl ?_
    refine wq_iald (pc := 54) dD_riskOf_54 sh_14 s2.1 s2.2 ?_
    refine wq_istore_n (pc := 55) (lo' := [iR 0, iI x1, iI y0, iI (gI M 14 x1)]) dD_riskOf_55 rfl rfl rfl ?_
    refine wq_iload_n (pc := 56) dD_riskOf_56 rfl rfl ?_
    refine wq_if_ne (pc := 57) (tgt := 62) dD_riskOf_57 (by decide) (fun c3 => ?_) (fun c3 => ?_)
    · have H := H.1 c3
      refine wq_iload_n (pc := 62) dD_riskOf_62 rfl rfl ?_
      refine wq_iconst (pc := 63) dD_riskOf_63 rfl ?_
      refine wq_icmp_ne (pc := 64) (tgt := 71) dD_riskOf_64 (by decide) (fun c4 => ?_) (fun c4 => ?_)
      · have H := H.1 c4
        refine wq_iconst (pc := 71) dD_riskOf_71 rfl ?_
        refine wq_ireturn (pc := 72) dD_riskOf_72 trivial ?_
        exact H
      · have H := H.2 c4
        refine wq_iconst (pc := 67) dD_riskOf_67 rfl ?_
        refine wq_goto (pc := 68) (tgt := 72) dD_riskOf_68 (by decide) ?_
        refine wq_ireturn (pc := 72) dD_riskOf_72 trivial ?_
        exact H
    · have H := H.2 c3
      refine wq_iconst (pc := 60) dD_riskOf_60 rfl ?_
      refine wq_ireturn (pc := 61) dD_riskOf_61 trivial ?_
      exact H
  · have H := H.2 c1
    refine wq_iconst (pc := 28) dD_riskOf_28 rfl ?_
    refine wq_iconst (pc := 29) dD_riskOf_29 rfl ?_
    refine wq_aload_n (pc := 30) dD_riskOf_30 rfl rfl ?_
    refine wq_iload_n (pc := 31) dD_riskOf_31 rfl rfl ?_
    refine wq_iload_n (pc := 32) dD_riskOf_32 rfl rfl ?_
    refine wq_callV (d' := 52) (pc := 33) (as := [vI y0, vI x1]) (rest := [vI 2, vI 0]) (lo' := [iR 0, iI y0, iI x1, none, none]) dD_riskOf_33 mO_D_valueOf lV_D_365 sh_0 (by decide) cl_10 rfl rfl rfl rfl rfl rfl ?_
    exact H

set_option maxRecDepth 20000 in
theorem B_D_riskOf_36 {x1 x2 y0 y1 y2 : Int} {M : Mm} {Q : Mm → Option Mv → Prop} (H : Q M (some (vI (max y2 (min y1 y0))))) : Wq 53 0 0 mD_riskOf 36 [iR 0, iI x1, iI x2, none] [vI y0, vI y1, vI y2] M Q := by
  refine wq_min (pc := 36) dD_riskOf_36 xO_D_368 rfl ?_
  refine wq_max (pc := 39) dD_riskOf_39 xO_D_373 rfl ?_
  refine wq_ireturn (pc := 42) dD_riskOf_42 trivial ?_
  exact H
set_option maxRecDepth 20000 in
theorem B_D_priceOf_0 {x1 : Int} {M : Mm} {Q : Mm → Option Mv → Prop} (hS : RefOK M) (H : ((0 ≤ x1 ∧ x1 < 20) ∧ Wq 1 0 0 mC_inForce 0 [iR 20, iI 1, iI (gI M 15 x1), none] [] M (fun M' v => Wq 53 0 0 mD_priceOf 23 [iR 0, iI x1, none] (v.toList ++ []) M' Q))) : Wq 53 0 0 mD_priceOf 0 [iR 0, iI x1, none] [] M Q := by
  obtain ⟨s1, H⟩ := H
  refine wq_aload_n (pc := 0) dD_priceOf_0 rfl rfl ?_
  refine wq_getR (pc := 1) (z := 0) (b := 1) dD_priceOf_1 fO_D_12 sh_0 rfl rfl (rf_0_0 hS) ?_
  refine wq_getR (pc := 4) (z := 3) (b := 20) dD_priceOf_4 fO_D_227 sh_1 rfl rfl (rf_1_3 hS) ?_
  refine wq_iconst (pc := 7) dD_priceOf_7 rfl ?_
  refine wq_aload_n (pc := 8) dD_priceOf_8 rfl rfl ?_
  refine wq_getR (pc := 9) (z := 0) (b := 1) dD_priceOf_9 fO_D_12 sh_0 rfl rfl (rf_0_0 hS) ?_
  refine wq_getR (pc := 12) (z := 2) (b := 12) dD_priceOf_12 fO_D_148 sh_1 rfl rfl (rf_1_2 hS) ?_
  refine wq_getR (pc := 15) (z := 2) (b := 15) dD_priceOf_15 fO_D_159 sh_12 rfl rfl (rf_12_2 hS) ?_
  refine wq_iload_n (pc := 18) dD_priceOf_18 rfl rfl ?_
  refine wq_iald (pc := 19) dD_priceOf_19 sh_15 s1.1 s1.2 ?_
  refine wq_callV (d' := 1) (pc := 20) (as := [vI 1, vI (gI M 15 x1)]) (rest := []) (lo' := [iR 20, iI 1, iI (gI M 15 x1), none]) dD_priceOf_20 mO_C_inForce lV_D_263 sh_20 (by decide) cl_0 rfl rfl rfl rfl rfl rfl ?_
  exact H

set_option maxRecDepth 20000 in
theorem B_D_priceOf_23 {x1 y0 : Int} {M : Mm} {Q : Mm → Option Mv → Prop} (H : ((0 ≤ y0 → Wq 52 0 0 mD_valueOf 0 [iR 0, iI y0, iI x1, none, none] [] M (fun M' v => Wq 53 0 0 mD_priceOf 41 [iR 0, iI x1, iI y0] (v.toList ++ [vI 9999, vI 0]) M' Q)) ∧ (¬ 0 ≤ y0 → Q M (some (vI 100))))) : Wq 53 0 0 mD_priceOf 23 [iR 0, iI x1, none] [vI y0] M Q := by
  refine wq_istore_n (pc := 23) (lo' := [iR 0, iI x1, iI y0]) dD_priceOf_23 rfl rfl rfl ?_
  refine wq_iload_n (pc := 24) dD_priceOf_24 rfl rfl ?_
  refine wq_if_ge (pc := 25) (tgt := 31) dD_priceOf_25 (by decide) (fun c1 => ?_) (fun c1 => ?_)
  · have H := H.1 c1
    refine wq_iconst (pc := 31) dD_priceOf_31 rfl ?_
    refine wq_sipush (pc := 32) dD_priceOf_32 rfl ?_
    refine wq_aload_n (pc := 35) dD_priceOf_35 rfl rfl ?_
    refine wq_iload_n (pc := 36) dD_priceOf_36 rfl rfl ?_
    refine wq_iload_n (pc := 37) dD_priceOf_37 rfl rfl ?_
    refine wq_callV (d' := 52) (pc := 38) (as := [vI y0, vI x1]) (rest := [vI 9999, vI 0]) (lo' := [iR 0, iI y0, iI x1, none, none]) dD_priceOf_38 mO_D_valueOf lV_D_365 sh_0 (by decide) cl_10 rfl rfl rfl rfl rfl rfl ?_
    exact H
  · have H := H.2 c1
    refine wq_bipush (pc := 28) dD_priceOf_28 rfl ?_
    refine wq_ireturn (pc := 30) dD_priceOf_30 trivial ?_
    exact H

set_option maxRecDepth 20000 in
theorem B_D_priceOf_41 {x1 x2 y0 y1 y2 : Int} {M : Mm} {Q : Mm → Option Mv → Prop} (H : Q M (some (vI (max y2 (min y1 y0))))) : Wq 53 0 0 mD_priceOf 41 [iR 0, iI x1, iI x2] [vI y0, vI y1, vI y2] M Q := by
  refine wq_min (pc := 41) dD_priceOf_41 xO_D_368 rfl ?_
  refine wq_max (pc := 44) dD_priceOf_44 xO_D_373 rfl ?_
  refine wq_ireturn (pc := 47) dD_priceOf_47 trivial ?_
  exact H
set_option maxRecDepth 20000 in
theorem B_D_valueOf_0 {x1 x2 : Int} {M : Mm} {Q : Mm → Option Mv → Prop} (hS : RefOK M) (H : (((0 ≤ x2 ∧ x2 < 20) ∧ (0 ≤ gI M 13 x2 ∧ gI M 13 x2 < 16)) ∧ Wq 1 0 0 mE_noticeAfter 0 [iR 12, iI x2] [] (sI (sI (sI M 64 0 (gI M 14 x2)) 64 1 (gI M 16 x2)) 64 2 (gI M 6 (gI M 13 x2))) (fun M' v => Wq 52 0 0 mD_valueOf 81 [iR 0, iI x1, iI x2, iR 12, iI (gI M 13 x2)] (v.toList ++ [vI 3, vR 64]) M' Q))) : Wq 52 0 0 mD_valueOf 0 [iR 0, iI x1, iI x2, none, none] [] M Q := by
  obtain ⟨⟨s1, s2⟩, H⟩ := H
  refine wq_aload_n (pc := 0) dD_valueOf_0 rfl rfl ?_
  refine wq_getR (pc := 1) (z := 0) (b := 1) dD_valueOf_1 fO_D_12 sh_0 rfl rfl (rf_0_0 hS) ?_
  refine wq_getR (pc := 4) (z := 2) (b := 12) dD_valueOf_4 fO_D_148 sh_1 rfl rfl (rf_1_2 hS) ?_
  refine wq_astore_n (pc := 7) (lo' := [iR 0, iI x1, iI x2, iR 12, none]) dD_valueOf_7 rfl rfl rfl ?_
  refine wq_aload_n (pc := 8) dD_valueOf_8 rfl rfl ?_
  refine wq_getR (pc := 9) (z := 0) (b := 13) dD_valueOf_9 fO_D_171 sh_12 rfl rfl (rf_12_0 hS) ?_
  refine wq_iload_n (pc := 12) dD_valueOf_12 rfl rfl ?_
  refine wq_iald (pc := 13) dD_valueOf_13 sh_13 s1.1 s1.2 ?_
  refine wq_istore (pc := 14) (lo' := [iR 0, iI x1, iI x2, iR 12, iI (gI M 13 x2)]) dD_valueOf_14 rfl rfl ?_
  refine wq_aload_n (pc := 16) dD_valueOf_16 rfl rfl ?_
  refine wq_getR (pc := 17) (z := 3) (b := 63) dD_valueOf_17 fO_D_29 sh_0 rfl rfl (rf_0_3 hS) ?_
  refine wq_getR (pc := 20) (z := 0) (b := 64) dD_valueOf_20 fO_D_376 sh_63 rfl rfl (rf_63_0 hS) ?_
  refine wq_iconst (pc := 23) dD_valueOf_23 rfl ?_
  refine wq_aload_n (pc := 24) dD_valueOf_24 rfl rfl ?_
  refine wq_getR (pc := 25) (z := 1) (b := 14) dD_valueOf_25 fO_D_174 sh_12 rfl rfl (rf_12_1 hS) ?_
  refine wq_iload_n (pc := 28) dD_valueOf_28 rfl rfl ?_
  refine wq_iald (pc := 29) dD_valueOf_29 sh_14 s1.1 s1.2 ?_
  refine wq_iast (pc := 30) dD_valueOf_30 sh_64 (by decide) (by decide) (by decide) ?_
  refine wq_aload_n (pc := 31) dD_valueOf_31 rfl rfl ?_
  refine wq_getR (pc := 32) (z := 3) (b := 63) dD_valueOf_32 fO_D_29 sh_0 rfl rfl (rf_0_3 hS) ?_
  refine wq_getR (pc := 35) (z := 0) (b := 64) dD_valueOf_35 fO_D_376 sh_63 rfl rfl (rf_63_0 hS) ?_
  refine wq_iconst (pc := 38) dD_valueOf_38 rfl ?_
  refine wq_aload_n (pc := 39) dD_valueOf_39 rfl rfl ?_
  refine wq_getR (pc := 40) (z := 3) (b := 16) dD_valueOf_40 fO_D_177 sh_12 rfl rfl (rf_12_3 hS) ?_
  refine wq_iload_n (pc := 43) dD_valueOf_43 rfl rfl ?_
  refine wq_iald (pc := 44) dD_valueOf_44 sh_16 s1.1 s1.2 ?_
  refine wq_re (x := (gI (sI M 64 0 (gI M 14 x2)) 16 x2)) (y := (gI M 16 x2)) rfl ?_
  refine wq_iast (pc := 45) dD_valueOf_45 sh_64 (by decide) (by decide) (by decide) ?_
  refine wq_aload_n (pc := 46) dD_valueOf_46 rfl rfl ?_
  refine wq_getR (pc := 47) (z := 3) (b := 63) dD_valueOf_47 fO_D_29 sh_0 rfl rfl (rf_0_3 hS) ?_
  refine wq_getR (pc := 50) (z := 0) (b := 64) dD_valueOf_50 fO_D_376 sh_63 rfl rfl (rf_63_0 hS) ?_
  refine wq_iconst (pc := 53) dD_valueOf_53 rfl ?_
  refine wq_aload_n (pc := 54) dD_valueOf_54 rfl rfl ?_
  refine wq_getR (pc := 55) (z := 0) (b := 1) dD_valueOf_55 fO_D_12 sh_0 rfl rfl (rf_0_0 hS) ?_
  refine wq_getR (pc := 58) (z := 1) (b := 5) dD_valueOf_58 fO_D_74 sh_1 rfl rfl (rf_1_1 hS) ?_
  refine wq_getR (pc := 61) (z := 0) (b := 6) dD_valueOf_61 fO_D_91 sh_5 rfl rfl (rf_5_0 hS) ?_
  refine wq_iload (pc := 64) dD_valueOf_64 rfl ?_
  refine wq_iald (pc := 66) dD_valueOf_66 sh_6 s2.1 s2.2 ?_
  refine wq_re (x := (gI (sI (sI M 64 0 (gI M 14 x2)) 64 1 (gI M 16 x2)) 6 (gI M 13 x2))) (y := (gI M 6 (gI M 13 x2))) rfl ?_
  refine wq_iast (pc := 67) dD_valueOf_67 sh_64 (by decide) (by decide) (by decide) ?_
  refine wq_aload_n (pc := 68) dD_valueOf_68 rfl rfl ?_
  refine wq_getR (pc := 69) (z := 3) (b := 63) dD_valueOf_69 fO_D_29 sh_0 rfl rfl (rf_0_3 hS) ?_
  refine wq_getR (pc := 72) (z := 0) (b := 64) dD_valueOf_72 fO_D_376 sh_63 rfl rfl (rf_63_0 hS) ?_
  refine wq_iconst (pc := 75) dD_valueOf_75 rfl ?_
  refine wq_aload_n (pc := 76) dD_valueOf_76 rfl rfl ?_
  refine wq_iload_n (pc := 77) dD_valueOf_77 rfl rfl ?_
  refine wq_callV (d' := 1) (pc := 78) (as := [vI x2]) (rest := [vI 3, vR 64]) (lo' := [iR 12, iI x2]) dD_valueOf_78 mO_E_noticeAfter lV_D_379 sh_12 (by decide) cl_2 rfl rfl rfl rfl rfl rfl ?_
  exact H

set_option maxRecDepth 20000 in
theorem B_D_valueOf_81 {x1 x2 x4 y0 y1 : Int} {M : Mm} {Q : Mm → Option Mv → Prop} (hS : RefOK M) (H : ((0 ≤ y1 ∧ y1 < 6) ∧ Wq 2 0 0 mD_knownToday 0 [iR 0] [] (sI M 64 y1 y0) (fun M' v => Wq 52 0 0 mD_valueOf 96 [iR 0, iI x1, iI x2, iR 12, iI x4] (v.toList ++ [vI x2, vR 12, vI 4, vR 64]) M' Q))) : Wq 52 0 0 mD_valueOf 81 [iR 0, iI x1, iI x2, iR 12, iI x4] [vI y0, vI y1, vR 64] M Q := by
  obtain ⟨s1, H⟩ := H
  refine wq_iast (pc := 81) dD_valueOf_81 sh_64 (by decide) s1.1 s1.2 ?_
  refine wq_aload_n (pc := 82) dD_valueOf_82 rfl rfl ?_
  refine wq_getR (pc := 83) (z := 3) (b := 63) dD_valueOf_83 fO_D_29 sh_0 rfl rfl (rf_0_3 hS) ?_
  refine wq_getR (pc := 86) (z := 0) (b := 64) dD_valueOf_86 fO_D_376 sh_63 rfl rfl (rf_63_0 hS) ?_
  refine wq_iconst (pc := 89) dD_valueOf_89 rfl ?_
  refine wq_aload_n (pc := 90) dD_valueOf_90 rfl rfl ?_
  refine wq_iload_n (pc := 91) dD_valueOf_91 rfl rfl ?_
  refine wq_aload_n (pc := 92) dD_valueOf_92 rfl rfl ?_
  refine wq_callV (d' := 2) (pc := 93) (as := []) (rest := [vI x2, vR 12, vI 4, vR 64]) (lo' := [iR 0]) dD_valueOf_93 mO_D_knownToday lV_D_272 sh_0 (by decide) cl_10 rfl rfl rfl rfl rfl rfl ?_
  exact H

set_option maxRecDepth 20000 in
theorem B_D_valueOf_96 {x1 x2 x4 y0 y1 y3 : Int} {M : Mm} {Q : Mm → Option Mv → Prop} (H : Wq 2 0 0 mE_meetsOther 0 [iR 12, iI y1, iI y0, none, none] [] M (fun M' v => Wq 52 0 0 mD_valueOf 99 [iR 0, iI x1, iI x2, iR 12, iI x4] (v.toList ++ [vI y3, vR 64]) M' Q)) : Wq 52 0 0 mD_valueOf 96 [iR 0, iI x1, iI x2, iR 12, iI x4] [vI y0, vI y1, vR 12, vI y3, vR 64] M Q := by
  refine wq_callV (d' := 2) (pc := 96) (as := [vI y1, vI y0]) (rest := [vI y3, vR 64]) (lo' := [iR 12, iI y1, iI y0, none, none]) dD_valueOf_96 mO_E_meetsOther lV_D_382 sh_12 (by decide) cl_2 rfl rfl rfl rfl rfl rfl ?_
  exact H

set_option maxRecDepth 20000 in
theorem B_D_valueOf_99 {x1 x2 x4 y0 y1 : Int} {M : Mm} {Q : Mm → Option Mv → Prop} (hS : RefOK M) (H : ((y0 = 0 → ((0 ≤ y1 ∧ y1 < 6) ∧ Wq 1 0 0 mC_mentions 0 [iR 20, iI x1, iI 102, none] [] (sI M 64 y1 0) (fun M' v => Wq 52 0 0 mD_valueOf 129 [iR 0, iI x1, iI x2, iR 12, iI x4] (v.toList ++ [vI 5, vR 64]) M' Q))) ∧ (¬ y0 = 0 → ((0 ≤ y1 ∧ y1 < 6) ∧ Wq 1 0 0 mC_mentions 0 [iR 20, iI x1, iI 102, none] [] (sI M 64 y1 1) (fun M' v => Wq 52 0 0 mD_valueOf 129 [iR 0, iI x1, iI x2, iR 12, iI x4] (v.toList ++ [vI 5, vR 64]) M' Q))))) : Wq 52 0 0 mD_valueOf 99 [iR 0, iI x1, iI x2, iR 12, iI x4] [vI y0, vI y1, vR 64] M Q := by
  refine wq_if_eq (pc := 99) (tgt := 106) dD_valueOf_99 (by decide) (fun c1 => ?_) (fun c1 => ?_)
  · have H := H.1 c1
    obtain ⟨s2, H⟩ := H
    refine wq_iconst (pc := 106) dD_valueOf_106 rfl ?_
    refine wq_iast (pc := 107) dD_valueOf_107 sh_64 (by decide) s2.1 s2.2 ?_
    refine wq_aload_n (pc := 108) dD_valueOf_108 rfl rfl ?_
    refine wq_getR (pc := 109) (z := 3) (b := 63) dD_valueOf_109 fO_D_29 sh_0 rfl rfl (rf_0_3 hS) ?_
    refine wq_getR (pc := 112) (z := 0) (b := 64) dD_valueOf_112 fO_D_376 sh_63 rfl rfl (rf_63_0 hS) ?_
    refine wq_iconst (pc := 115) dD_valueOf_115 rfl ?_
    refine wq_aload_n (pc := 116) dD_valueOf_116 rfl rfl ?_
    refine wq_getR (pc := 117) (z := 0) (b := 1) dD_valueOf_117 fO_D_12 sh_0 rfl rfl (rf_0_0 hS) ?_
    refine wq_getR (pc := 120) (z := 3) (b := 20) dD_valueOf_120 fO_D_227 sh_1 rfl rfl (rf_1_3 hS) ?_
    refine wq_iload_n (pc := 123) dD_valueOf_123 rfl rfl ?_
    refine wq_bipush (pc := 124) dD_valueOf_124 rfl ?_
    refine wq_callV (d' := 1) (pc := 126) (as := [vI x1, vI 102]) (rest := [vI 5, vR 64]) (lo' := [iR 20, iI x1, iI 102, none]) dD_valueOf_126 mO_C_mentions lV_D_385 sh_20 (by decide) cl_0 rfl rfl rfl rfl rfl rfl ?_
    exact H
  · have H := H.2 c1
    obtain ⟨s3, H⟩ := H
    refine wq_iconst (pc := 102) dD_valueOf_102 rfl ?_
    refine wq_goto (pc := 103) (tgt := 107) dD_valueOf_103 (by decide) ?_
    refine wq_iast (pc := 107) dD_valueOf_107 sh_64 (by decide) s3.1 s3.2 ?_
    refine wq_aload_n (pc := 108) dD_valueOf_108 rfl rfl ?_
    refine wq_getR (pc := 109) (z := 3) (b := 63) dD_valueOf_109 fO_D_29 sh_0 rfl rfl (rf_0_3 hS) ?_
    refine wq_getR (pc := 112) (z := 0) (b := 64) dD_valueOf_112 fO_D_376 sh_63 rfl rfl (rf_63_0 hS) ?_
    refine wq_iconst (pc := 115) dD_valueOf_115 rfl ?_
    refine wq_aload_n (pc := 116) dD_valueOf_116 rfl rfl ?_
    refine wq_getR (pc := 117) (z := 0) (b := 1) dD_valueOf_117 fO_D_12 sh_0 rfl rfl (rf_0_0 hS) ?_
    refine wq_getR (pc := 120) (z := 3) (b := 20) dD_valueOf_120 fO_D_227 sh_1 rfl rfl (rf_1_3 hS) ?_
    refine wq_iload_n (pc := 123) dD_valueOf_123 rfl rfl ?_
    refine wq_bipush (pc := 124) dD_valueOf_124 rfl ?_
    refine wq_callV (d' := 1) (pc := 126) (as := [vI x1, vI 102]) (rest := [vI 5, vR 64]) (lo' := [iR 20, iI x1, iI 102, none]) dD_valueOf_126 mO_C_mentions lV_D_385 sh_20 (by decide) cl_0 rfl rfl rfl rfl rfl rfl ?_
    exact H

set_option maxRecDepth 20000 in
theorem B_D_valueOf_129 {x1 x2 x4 y0 y1 : Int} {M : Mm} {Q : Mm → Option Mv → Prop} (hS : RefOK M) (H : ((y0 = 0 → (((0 ≤ y1 ∧ y1 < 6) ∧ (0 ≤ x1 ∧ x1 < 10) ∧ (-2147483648 ≤ x1 * 60 ∧ x1 * 60 < 2147483648)) ∧ Wq 51 0 0 mR_read 0 [iR 63, iR 22, iI (x1 * 60), iI (gI M 23 x1), none] [] (sI M 64 y1 0) (fun M' v => Wq 52 0 0 mD_valueOf 177 [iR 0, iI x1, iI x2, iR 12, iI x4] (v.toList ++ []) M' Q))) ∧ (¬ y0 = 0 → Wq 4 0 0 mD_floatOf 0 [iR 0, iI x4, iI 0, none, none, none, none, none, none] [] M (fun M' v => Wq 52 0 0 mD_valueOf 139 [iR 0, iI x1, iI x2, iR 12, iI x4] (v.toList ++ [vI y1, vR 64]) M' Q)))) : Wq 52 0 0 mD_valueOf 129 [iR 0, iI x1, iI x2, iR 12, iI x4] [vI y0, vI y1, vR 64] M Q := by
  refine wq_if_eq (pc := 129) (tgt := 142) dD_valueOf_129 (by decide) (fun c1 => ?_) (fun c1 => ?_)
  · have H := H.1 c1
    obtain ⟨⟨s2, s3, s4⟩, H⟩ := H
    refine wq_iconst (pc := 142) dD_valueOf_142 rfl ?_
    refine wq_iast (pc := 143) dD_valueOf_143 sh_64 (by decide) s2.1 s2.2 ?_
    refine wq_aload_n (pc := 144) dD_valueOf_144 rfl rfl ?_
    refine wq_getR (pc := 145) (z := 3) (b := 63) dD_valueOf_145 fO_D_29 sh_0 rfl rfl (rf_0_3 hS) ?_
    refine wq_aload_n (pc := 148) dD_valueOf_148 rfl rfl ?_
    refine wq_getR (pc := 149) (z := 0) (b := 1) dD_valueOf_149 fO_D_12 sh_0 rfl rfl (rf_0_0 hS) ?_
    refine wq_getR (pc := 152) (z := 3) (b := 20) dD_valueOf_152 fO_D_227 sh_1 rfl rfl (rf_1_3 hS) ?_
    refine wq_getR (pc := 155) (z := 1) (b := 22) dD_valueOf_155 fO_D_389 sh_20 rfl rfl (rf_20_1 hS) ?_
    refine wq_iload_n (pc := 158) dD_valueOf_158 rfl rfl ?_
    refine wq_bipush (pc := 159) dD_valueOf_159 rfl ?_
    refine wq_imul (pc := 161) dD_valueOf_161 ?_
    refine wq_aload_n (pc := 162) dD_valueOf_162 rfl rfl ?_
    refine wq_getR (pc := 163) (z := 0) (b := 1) dD_valueOf_163 fO_D_12 sh_0 rfl rfl (rf_0_0 hS) ?_
    refine wq_getR (pc := 166) (z := 3) (b := 20) dD_valueOf_166 fO_D_227 sh_1 rfl rfl (rf_1_3 hS) ?_
    refine wq_getR (pc := 169) (z := 2) (b := 23) dD_valueOf_169 fO_D_392 sh_20 rfl rfl (rf_20_2 hS) ?_
    refine wq_iload_n (pc := 172) dD_valueOf_172 rfl rfl ?_
    refine wq_iald (pc := 173) dD_valueOf_173 sh_23 s3.1 s3.2 ?_
    refine wq_re (x := (gI (sI M 64 y1 0) 23 x1)) (y := (gI M 23 x1)) rfl ?_
    refine wq_re2 (x := (wr (x1 * 60))) (y := (x1 * 60)) (Eq.trans (wr_eq (by omega) (by omega)) (by omega)) ?_
    refine wq_callV (d' := 51) (pc := 174) (as := [vR 22, vI (x1 * 60), vI (gI M 23 x1)]) (rest := []) (lo' := [iR 63, iR 22, iI (x1 * 60), iI (gI M 23 x1), none]) dD_valueOf_174 mO_R_read lV_D_248 sh_63 (by decide) cl_5 rfl rfl rfl rfl rfl rfl ?_
    exact H
  · have H := H.2 c1
    refine wq_aload_n (pc := 132) dD_valueOf_132 rfl rfl ?_
    refine wq_iload (pc := 133) dD_valueOf_133 rfl ?_
    refine wq_iconst (pc := 135) dD_valueOf_135 rfl ?_
    refine wq_callV (d' := 4) (pc := 136) (as := [vI x4, vI 0]) (rest := [vI y1, vR 64]) (lo' := [iR 0, iI x4, iI 0, none, none, none, none, none, none]) dD_valueOf_136 mO_D_floatOf lV_D_189 sh_0 (by decide) cl_10 rfl rfl rfl rfl rfl rfl ?_
    exact H

set_option maxRecDepth 20000 in
theorem B_D_valueOf_139 {x1 x2 x4 y0 y1 : Int} {M : Mm} {Q : Mm → Option Mv → Prop} (hS : RefOK M) (H : (((0 ≤ y1 ∧ y1 < 6) ∧ (0 ≤ x1 ∧ x1 < 10) ∧ (-2147483648 ≤ x1 * 60 ∧ x1 * 60 < 2147483648)) ∧ Wq 51 0 0 mR_read 0 [iR 63, iR 22, iI (x1 * 60), iI (gI M 23 x1), none] [] (sI M 64 y1 y0) (fun M' v => Wq 52 0 0 mD_valueOf 177 [iR 0, iI x1, iI x2, iR 12, iI x4] (v.toList ++ []) M' Q))) : Wq 52 0 0 mD_valueOf 139 [iR 0, iI x1, iI x2, iR 12, iI x4] [vI y0, vI y1, vR 64] M Q := by
  obtain ⟨⟨s1, s2, s3⟩, H⟩ := H
  refine wq_goto (pc := 139) (tgt := 143) dD_valueOf_139 (by decide) ?_
  refine wq_iast (pc := 143) dD_valueOf_143 sh_64 (by decide) s1.1 s1.2 ?_
  refine wq_aload_n (pc := 144) dD_valueOf_144 rfl rfl ?_
  refine wq_getR (pc := 145) (z := 3) (b := 63) dD_valueOf_145 fO_D_29 sh_0 rfl rfl (rf_0_3 hS) ?_
  refine wq_aload_n (pc := 148) dD_valueOf_148 rfl rfl ?_
  refine wq_getR (pc := 149) (z := 0) (b := 1) dD_valueOf_149 fO_D_12 sh_0 rfl rfl (rf_0_0 hS) ?_
  refine wq_getR (pc := 152) (z := 3) (b := 20) dD_valueOf_152 fO_D_227 sh_1 rfl rfl (rf_1_3 hS) ?_
  refine wq_getR (pc := 155) (z := 1) (b := 22) dD_valueOf_155 fO_D_389 sh_20 rfl rfl (rf_20_1 hS) ?_
  refine wq_iload_n (pc := 158) dD_valueOf_158 rfl rfl ?_
  refine wq_bipush (pc := 159) dD_valueOf_159 rfl ?_
  refine wq_imul (pc := 161) dD_valueOf_161 ?_
  refine wq_aload_n (pc := 162) dD_valueOf_162 rfl rfl ?_
  refine wq_getR (pc := 163) (z := 0) (b := 1) dD_valueOf_163 fO_D_12 sh_0 rfl rfl (rf_0_0 hS) ?_
  refine wq_getR (pc := 166) (z := 3) (b := 20) dD_valueOf_166 fO_D_227 sh_1 rfl rfl (rf_1_3 hS) ?_
  refine wq_getR (pc := 169) (z := 2) (b := 23) dD_valueOf_169 fO_D_392 sh_20 rfl rfl (rf_20_2 hS) ?_
  refine wq_iload_n (pc := 172) dD_valueOf_172 rfl rfl ?_
  refine wq_iald (pc := 173) dD_valueOf_173 sh_23 s2.1 s2.2 ?_
  refine wq_re (x := (gI (sI M 64 y1 y0) 23 x1)) (y := (gI M 23 x1)) rfl ?_
  refine wq_re2 (x := (wr (x1 * 60))) (y := (x1 * 60)) (Eq.trans (wr_eq (by omega) (by omega)) (by omega)) ?_
  refine wq_callV (d' := 51) (pc := 174) (as := [vR 22, vI (x1 * 60), vI (gI M 23 x1)]) (rest := []) (lo' := [iR 63, iR 22, iI (x1 * 60), iI (gI M 23 x1), none]) dD_valueOf_174 mO_R_read lV_D_248 sh_63 (by decide) cl_5 rfl rfl rfl rfl rfl rfl ?_
  exact H

set_option maxRecDepth 20000 in
theorem B_D_valueOf_177 {x1 x2 x4 y0 : Int} {M : Mm} {Q : Mm → Option Mv → Prop} (H : Q M (some (vI y0))) : Wq 52 0 0 mD_valueOf 177 [iR 0, iI x1, iI x2, iR 12, iI x4] [vI y0] M Q := by
  refine wq_ireturn (pc := 177) dD_valueOf_177 trivial ?_
  exact H
set_option maxRecDepth 20000 in
theorem B_D_bearing_0 {x1 : Int} {M : Mm} {Q : Mm → Option Mv → Prop} (H : Wq 2 0 0 mD_knownToday 0 [iR 0] [] M (fun M' v => Wq 54 0 0 mD_bearing 4 [iR 0, iI x1, none, none, none] (v.toList ++ []) M' Q)) : Wq 54 0 0 mD_bearing 0 [iR 0, iI x1, none, none, none] [] M Q := by
  refine wq_aload_n (pc := 0) dD_bearing_0 rfl rfl ?_
  refine wq_callV (d' := 2) (pc := 1) (as := []) (rest := []) (lo' := [iR 0]) dD_bearing_1 mO_D_knownToday lV_D_272 sh_0 (by decide) cl_10 rfl rfl rfl rfl rfl rfl ?_
  exact H

set_option maxRecDepth 20000 in
theorem B_D_bearing_4 {x1 y0 : Int} {M : Mm} {Q : Mm → Option Mv → Prop} (H : Wq 54 0 0 mD_bearing 10 [iR 0, iI x1, iI y0, iI 0, iI 0] [] M Q) : Wq 54 0 0 mD_bearing 4 [iR 0, iI x1, none, none, none] [vI y0] M Q := by
  refine wq_istore_n (pc := 4) (lo' := [iR 0, iI x1, iI y0, none, none]) dD_bearing_4 rfl rfl rfl ?_
  refine wq_iconst (pc := 5) dD_bearing_5 rfl ?_
  refine wq_istore_n (pc := 6) (lo' := [iR 0, iI x1, iI y0, iI 0, none]) dD_bearing_6 rfl rfl rfl ?_
  refine wq_iconst (pc := 7) dD_bearing_7 rfl ?_
  refine wq_istore (pc := 8) (lo' := [iR 0, iI x1, iI y0, iI 0, iI 0]) dD_bearing_8 rfl rfl ?_
  exact H

set_option maxRecDepth 20000 in
theorem B_D_bearing_10 {x1 x2 x3 x4 : Int} {M : Mm} {Q : Mm → Option Mv → Prop} (hS : RefOK M) (H : ((gI M 12 7 ≤ x4 → Q M (some (vI x3))) ∧ (¬ gI M 12 7 ≤ x4 → ((0 ≤ x2 ∧ x2 < 2147483648 ∧ 0 ≤ x4 ∧ x4 < 32) ∧ ((hb x2 x4 = true → Wq 53 0 0 mD_riskOf 0 [iR 0, iI x4, none, none] [] M (fun M' v => Wq 54 0 0 mD_bearing 40 [iR 0, iI x1, iI x2, iI x3, iI x4] (v.toList ++ []) M' Q)) ∧ (¬ (hb x2 x4 = true) → ((-2147483648 ≤ x4 + 1 ∧ x4 + 1 < 2147483648) ∧ Wq 54 0 0 mD_bearing 10 [iR 0, iI x1, iI x2, iI x3, iI (x4 + 1)] [] M Q))))))) : Wq 54 0 0 mD_bearing 10 [iR 0, iI x1, iI x2, iI x3, iI x4] [] M Q := by
  refine wq_iload (pc := 10) dD_bearing_10 rfl ?_
  refine wq_aload_n (pc := 12) dD_bearing_12 rfl rfl ?_
  refine wq_getR (pc := 13) (z := 0) (b := 1) dD_bearing_13 fO_D_12 sh_0 rfl rfl (rf_0_0 hS) ?_
  refine wq_getR (pc := 16) (z := 2) (b := 12) dD_bearing_16 fO_D_148 sh_1 rfl rfl (rf_1_2 hS) ?_
  refine wq_getI (pc := 19) (z := 7) dD_bearing_19 fO_D_152 sh_12 rfl rfl ?_
  refine wq_icmp_ge (pc := 22) (tgt := 57) dD_bearing_22 (by decide) (fun c1 => ?_) (fun c1 => ?_)
  · have H := H.1 c1
    refine wq_iload_n (pc := 57) dD_bearing_57 rfl rfl ?_
    refine wq_ireturn (pc := 58) dD_bearing_58 trivial ?_
    exact H
  · have H := H.2 c1
    obtain ⟨s2, H⟩ := H
    refine wq_iload_n (pc := 25) dD_bearing_25 rfl rfl ?_
    refine wq_iload (pc := 26) dD_bearing_26 rfl ?_
    refine wq_callS (d' := 1) (pc := 28) (as := [vI x2, vI x4]) (rest := []) (lo' := [iI x2, iI x4]) dD_bearing_28 mO_D_holds lS_D_209 rfl rfl rfl rfl rfl rfl ?_
    refine sp_D_holds s2 (fun c3 => ?_) (fun c3 => ?_)
    · have H := H.1 c3
      show Wq 54 0 0 mD_bearing 31 [iR 0, iI x1, iI x2, iI x3, iI x4] [vI 1] M _
      refine wq_if_eq (pc := 31) (tgt := 51) dD_bearing_31 (by decide) (fun q => absurd q (by decide)) (fun _ => ?_)
      refine wq_aload_n (pc := 34) dD_bearing_34 rfl rfl ?_
      refine wq_iload (pc := 35) dD_bearing_35 rfl ?_
      refine wq_callV (d' := 53) (pc := 37) (as := [vI x4]) (rest := []) (lo' := [iR 0, iI x4, none, none]) dD_bearing_37 mO_D_riskOf lV_D_257 sh_0 (by decide) cl_10 rfl rfl rfl rfl rfl rfl ?_
      exact H
    · have H := H.2 c3
      show Wq 54 0 0 mD_bearing 31 [iR 0, iI x1, iI x2, iI x3, iI x4] [vI 0] M _
      obtain ⟨s4, H⟩ := H
      refine wq_if_eq (pc := 31) (tgt := 51) dD_bearing_31 (by decide) (fun _ => ?_) (fun q => absurd (by decide) q)
      refine wq_iinc (pc := 51) (lo' := [iR 0, iI x1, iI x2, iI x3, iI (x4 + 1)]) dD_bearing_51 rfl rfl (by rw [show wr (x4 + 1) = x4 + 1 from (Eq.trans (wr_eq (by omega) (by omega)) (by omega))]; rfl) ?_
      refine wq_goto (pc := 54) (tgt := 10) dD_bearing_54 (by decide) ?_
      exact H

set_option maxRecDepth 20000 in
theorem B_D_bearing_40 {x1 x2 x3 x4 y0 : Int} {M : Mm} {Q : Mm → Option Mv → Prop} (H : ((y0 < x1 → ((-2147483648 ≤ x4 + 1 ∧ x4 + 1 < 2147483648) ∧ Wq 54 0 0 mD_bearing 10 [iR 0, iI x1, iI x2, iI x3, iI (x4 + 1)] [] M Q)) ∧ (¬ y0 < x1 → ((-2147483648 ≤ x4 + 1 ∧ x4 + 1 < 2147483648) ∧ Wq 54 0 0 mD_bearing 10 [iR 0, iI x1, iI x2, iI (bOr x3 (bShl 1 x4)), iI (x4 + 1)] [] M Q)))) : Wq 54 0 0 mD_bearing 40 [iR 0, iI x1, iI x2, iI x3, iI x4] [vI y0] M Q := by
  refine wq_iload_n (pc := 40) dD_bearing_40 rfl rfl ?_
  refine wq_icmp_lt (pc := 41) (tgt := 51) dD_bearing_41 (by decide) (fun c1 => ?_) (fun c1 => ?_)
  · have H := H.1 c1
    obtain ⟨s2, H⟩ := H
    refine wq_iinc (pc := 51) (lo' := [iR 0, iI x1, iI x2, iI x3, iI (x4 + 1)]) dD_bearing_51 rfl rfl (by rw [show wr (x4 + 1) = x4 + 1 from (Eq.trans (wr_eq (by omega) (by omega)) (by omega))]; rfl) ?_
    refine wq_goto (pc := 54) (tgt := 10) dD_bearing_54 (by decide) ?_
    exact H
  · have H := H.2 c1
    obtain ⟨s3, H⟩ := H
    refine wq_iload_n (pc := 44) dD_bearing_44 rfl rfl ?_
    refine wq_iconst (pc := 45) dD_bearing_45 rfl ?_
    refine wq_iload (pc := 46) dD_bearing_46 rfl ?_
    refine wq_ishl (pc := 48) dD_bearing_48 ?_
    refine wq_ior (pc := 49) dD_bearing_49 ?_
    refine wq_istore_n (pc := 50) (lo' := [iR 0, iI x1, iI x2, iI (bOr x3 (bShl 1 x4)), iI x4]) dD_bearing_50 rfl rfl rfl ?_
    refine wq_iinc (pc := 51) (lo' := [iR 0, iI x1, iI x2, iI (bOr x3 (bShl 1 x4)), iI (x4 + 1)]) dD_bearing_51 rfl rfl (by rw [show wr (x4 + 1) = x4 + 1 from (Eq.trans (wr_eq (by omega) (by omega)) (by omega))]; rfl) ?_
    refine wq_goto (pc := 54) (tgt := 10) dD_bearing_54 (by decide) ?_
    exact H
set_option maxRecDepth 20000 in
theorem B_D_paidFor_0 {x1 : Int} {M : Mm} {Q : Mm → Option Mv → Prop} (H : Wq 54 0 0 mD_paidFor 4 [iR 0, iI x1, iI 0, iI 0] [] M Q) : Wq 54 0 0 mD_paidFor 0 [iR 0, iI x1, none, none] [] M Q := by
  refine wq_iconst (pc := 0) dD_paidFor_0 rfl ?_
  refine wq_istore_n (pc := 1) (lo' := [iR 0, iI x1, iI 0, none]) dD_paidFor_1 rfl rfl rfl ?_
  refine wq_iconst (pc := 2) dD_paidFor_2 rfl ?_
  refine wq_istore_n (pc := 3) (lo' := [iR 0, iI x1, iI 0, iI 0]) dD_paidFor_3 rfl rfl rfl ?_
  exact H

set_option maxRecDepth 20000 in
theorem B_D_paidFor_4 {x1 x2 x3 : Int} {M : Mm} {Q : Mm → Option Mv → Prop} (hS : RefOK M) (H : ((gI M 12 7 ≤ x3 → Q M (some (vI x2))) ∧ (¬ gI M 12 7 ≤ x3 → ((0 ≤ x1 ∧ x1 < 2147483648 ∧ 0 ≤ x3 ∧ x3 < 32) ∧ ((hb x1 x3 = true → Wq 6 0 0 mD_addedBy 0 [iR 0, iI x3, iI x1, none] [] M (fun M' v => Wq 54 0 0 mD_paidFor 33 [iR 0, iI x1, iI x2, iI x3] (v.toList ++ [vI x2]) M' Q)) ∧ (¬ (hb x1 x3 = true) → Wq 54 0 0 mD_paidFor 4 [iR 0, iI x1, iI x2, iI (wr (x3 + 1))] [] M Q)))))) : Wq 54 0 0 mD_paidFor 4 [iR 0, iI x1, iI x2, iI x3] [] M Q := by
  refine wq_iload_n (pc := 4) dD_paidFor_4 rfl rfl ?_
  refine wq_aload_n (pc := 5) dD_paidFor_5 rfl rfl ?_
  refine wq_getR (pc := 6) (z := 0) (b := 1) dD_paidFor_6 fO_D_12 sh_0 rfl rfl (rf_0_0 hS) ?_
  refine wq_getR (pc := 9) (z := 2) (b := 12) dD_paidFor_9 fO_D_148 sh_1 rfl rfl (rf_1_2 hS) ?_
  refine wq_getI (pc := 12) (z := 7) dD_paidFor_12 fO_D_152 sh_12 rfl rfl ?_
  refine wq_icmp_ge (pc := 15) (tgt := 47) dD_paidFor_15 (by decide) (fun c1 => ?_) (fun c1 => ?_)
  · have H := H.1 c1
    refine wq_iload_n (pc := 47) dD_paidFor_47 rfl rfl ?_
    refine wq_ireturn (pc := 48) dD_paidFor_48 trivial ?_
    exact H
  · have H := H.2 c1
    obtain ⟨s2, H⟩ := H
    refine wq_iload_n (pc := 18) dD_paidFor_18 rfl rfl ?_
    refine wq_iload_n (pc := 19) dD_paidFor_19 rfl rfl ?_
    refine wq_callS (d' := 1) (pc := 20) (as := [vI x1, vI x3]) (rest := []) (lo' := [iI x1, iI x3]) dD_paidFor_20 mO_D_holds lS_D_209 rfl rfl rfl rfl rfl rfl ?_
    refine sp_D_holds s2 (fun c3 => ?_) (fun c3 => ?_)
    · have H := H.1 c3
      show Wq 54 0 0 mD_paidFor 23 [iR 0, iI x1, iI x2, iI x3] [vI 1] M _
      refine wq_if_eq (pc := 23) (tgt := 41) dD_paidFor_23 (by decide) (fun q => absurd q (by decide)) (fun _ => ?_)
      refine wq_iload_n (pc := 26) dD_paidFor_26 rfl rfl ?_
      refine wq_aload_n (pc := 27) dD_paidFor_27 rfl rfl ?_
      refine wq_iload_n (pc := 28) dD_paidFor_28 rfl rfl ?_
      refine wq_iload_n (pc := 29) dD_paidFor_29 rfl rfl ?_
      refine wq_callV (d' := 6) (pc := 30) (as := [vI x3, vI x1]) (rest := [vI x2]) (lo' := [iR 0, iI x3, iI x1, none]) dD_paidFor_30 mO_D_addedBy lV_D_212 sh_0 (by decide) cl_10 rfl rfl rfl rfl rfl rfl ?_
      exact H
    · have H := H.2 c3
      show Wq 54 0 0 mD_paidFor 23 [iR 0, iI x1, iI x2, iI x3] [vI 0] M _
      refine wq_if_eq (pc := 23) (tgt := 41) dD_paidFor_23 (by decide) (fun _ => ?_) (fun q => absurd (by decide) q)
      refine wq_iinc (pc := 41) (lo' := [iR 0, iI x1, iI x2, iI (wr (x3 + 1))]) dD_paidFor_41 rfl rfl rfl ?_
      refine wq_goto (pc := 44) (tgt := 4) dD_paidFor_44 (by decide) ?_
      exact H

set_option maxRecDepth 20000 in
theorem B_D_paidFor_33 {x1 x2 x3 y0 y1 : Int} {M : Mm} {Q : Mm → Option Mv → Prop} (H : Wq 53 0 0 mD_priceOf 0 [iR 0, iI x3, none] [] M (fun M' v => Wq 54 0 0 mD_paidFor 38 [iR 0, iI x1, iI x2, iI x3] (v.toList ++ [vI y0, vI y1]) M' Q)) : Wq 54 0 0 mD_paidFor 33 [iR 0, iI x1, iI x2, iI x3] [vI y0, vI y1] M Q := by
  refine wq_aload_n (pc := 33) dD_paidFor_33 rfl rfl ?_
  refine wq_iload_n (pc := 34) dD_paidFor_34 rfl rfl ?_
  refine wq_callV (d' := 53) (pc := 35) (as := [vI x3]) (rest := [vI y0, vI y1]) (lo' := [iR 0, iI x3, none]) dD_paidFor_35 mO_D_priceOf lV_D_260 sh_0 (by decide) cl_10 rfl rfl rfl rfl rfl rfl ?_
  exact H

set_option maxRecDepth 20000 in
theorem B_D_paidFor_38 {x1 x2 x3 y0 y1 y2 : Int} {M : Mm} {Q : Mm → Option Mv → Prop} (H : Wq 54 0 0 mD_paidFor 4 [iR 0, iI x1, iI (wr (y2 + wr (y1 * y0))), iI (wr (x3 + 1))] [] M Q) : Wq 54 0 0 mD_paidFor 38 [iR 0, iI x1, iI x2, iI x3] [vI y0, vI y1, vI y2] M Q := by
  refine wq_imul (pc := 38) dD_paidFor_38 ?_
  refine wq_iadd (pc := 39) dD_paidFor_39 ?_
  refine wq_istore_n (pc := 40) (lo' := [iR 0, iI x1, iI (wr (y2 + wr (y1 * y0))), iI x3]) dD_paidFor_40 rfl rfl rfl ?_
  refine wq_iinc (pc := 41) (lo' := [iR 0, iI x1, iI (wr (y2 + wr (y1 * y0))), iI (wr (x3 + 1))]) dD_paidFor_41 rfl rfl rfl ?_
  refine wq_goto (pc := 44) (tgt := 4) dD_paidFor_44 (by decide) ?_
  exact H
set_option maxRecDepth 20000 in
theorem B_D_twoAtOnce_0 {M : Mm} {Q : Mm → Option Mv → Prop} (H : Wq 2 0 0 mD_knownToday 0 [iR 0] [] M (fun M' v => Wq 3 0 0 mD_twoAtOnce 4 [iR 0, none, none, none] (v.toList ++ []) M' Q)) : Wq 3 0 0 mD_twoAtOnce 0 [iR 0, none, none, none] [] M Q := by
  refine wq_aload_n (pc := 0) dD_twoAtOnce_0 rfl rfl ?_
  refine wq_callV (d' := 2) (pc := 1) (as := []) (rest := []) (lo' := [iR 0]) dD_twoAtOnce_1 mO_D_knownToday lV_D_272 sh_0 (by decide) cl_10 rfl rfl rfl rfl rfl rfl ?_
  exact H

set_option maxRecDepth 20000 in
theorem B_D_twoAtOnce_4 {y0 : Int} {M : Mm} {Q : Mm → Option Mv → Prop} (H : Wq 3 0 0 mD_twoAtOnce 9 [iR 0, iI y0, iI 0, iI 0] [] M Q) : Wq 3 0 0 mD_twoAtOnce 4 [iR 0, none, none, none] [vI y0] M Q := by
  refine wq_istore_n (pc := 4) (lo' := [iR 0, iI y0, none, none]) dD_twoAtOnce_4 rfl rfl rfl ?_
  refine wq_iconst (pc := 5) dD_twoAtOnce_5 rfl ?_
  refine wq_istore_n (pc := 6) (lo' := [iR 0, iI y0, iI 0, none]) dD_twoAtOnce_6 rfl rfl rfl ?_
  refine wq_iconst (pc := 7) dD_twoAtOnce_7 rfl ?_
  refine wq_istore_n (pc := 8) (lo' := [iR 0, iI y0, iI 0, iI 0]) dD_twoAtOnce_8 rfl rfl rfl ?_
  exact H

set_option maxRecDepth 20000 in
theorem B_D_twoAtOnce_9 {x1 x2 x3 : Int} {M : Mm} {Q : Mm → Option Mv → Prop} (hS : RefOK M) (H : ((gI M 12 7 ≤ x3 → Q M (some (vI x2))) ∧ (¬ gI M 12 7 ≤ x3 → ((0 ≤ x1 ∧ x1 < 2147483648 ∧ 0 ≤ x3 ∧ x3 < 32) ∧ ((hb x1 x3 = true → Wq 2 0 0 mE_meetsOther 0 [iR 12, iI x3, iI x1, none, none] [] M (fun M' v => Wq 3 0 0 mD_twoAtOnce 43 [iR 0, iI x1, iI x2, iI x3] (v.toList ++ []) M' Q)) ∧ (¬ (hb x1 x3 = true) → ((-2147483648 ≤ x3 + 1 ∧ x3 + 1 < 2147483648) ∧ Wq 3 0 0 mD_twoAtOnce 9 [iR 0, iI x1, iI x2, iI (x3 + 1)] [] M Q))))))) : Wq 3 0 0 mD_twoAtOnce 9 [iR 0, iI x1, iI x2, iI x3] [] M Q := by
  refine wq_iload_n (pc := 9) dD_twoAtOnce_9 rfl rfl ?_
  refine wq_aload_n (pc := 10) dD_twoAtOnce_10 rfl rfl ?_
  refine wq_getR (pc := 11) (z := 0) (b := 1) dD_twoAtOnce_11 fO_D_12 sh_0 rfl rfl (rf_0_0 hS) ?_
  refine wq_getR (pc := 14) (z := 2) (b := 12) dD_twoAtOnce_14 fO_D_148 sh_1 rfl rfl (rf_1_2 hS) ?_
  refine wq_getI (pc := 17) (z := 7) dD_twoAtOnce_17 fO_D_152 sh_12 rfl rfl ?_
  refine wq_icmp_ge (pc := 20) (tgt := 58) dD_twoAtOnce_20 (by decide) (fun c1 => ?_) (fun c1 => ?_)
  · have H := H.1 c1
    refine wq_iload_n (pc := 58) dD_twoAtOnce_58 rfl rfl ?_
    refine wq_ireturn (pc := 59) dD_twoAtOnce_59 trivial ?_
    exact H
  · have H := H.2 c1
    obtain ⟨s2, H⟩ := H
    refine wq_iload_n (pc := 23) dD_twoAtOnce_23 rfl rfl ?_
    refine wq_iload_n (pc := 24) dD_twoAtOnce_24 rfl rfl ?_
    refine wq_callS (d' := 1) (pc := 25) (as := [vI x1, vI x3]) (rest := []) (lo' := [iI x1, iI x3]) dD_twoAtOnce_25 mO_D_holds lS_D_209 rfl rfl rfl rfl rfl rfl ?_
    refine sp_D_holds s2 (fun c3 => ?_) (fun c3 => ?_)
    · have H := H.1 c3
      show Wq 3 0 0 mD_twoAtOnce 28 [iR 0, iI x1, iI x2, iI x3] [vI 1] M _
      refine wq_if_eq (pc := 28) (tgt := 52) dD_twoAtOnce_28 (by decide) (fun q => absurd q (by decide)) (fun _ => ?_)
      refine wq_aload_n (pc := 31) dD_twoAtOnce_31 rfl rfl ?_
      refine wq_getR (pc := 32) (z := 0) (b := 1) dD_twoAtOnce_32 fO_D_12 sh_0 rfl rfl (rf_0_0 hS) ?_
      refine wq_getR (pc := 35) (z := 2) (b := 12) dD_twoAtOnce_35 fO_D_148 sh_1 rfl rfl (rf_1_2 hS) ?_
      refine wq_iload_n (pc := 38) dD_twoAtOnce_38 rfl rfl ?_
      refine wq_iload_n (pc := 39) dD_twoAtOnce_39 rfl rfl ?_
      refine wq_callV (d' := 2) (pc := 40) (as := [vI x3, vI x1]) (rest := []) (lo' := [iR 12, iI x3, iI x1, none, none]) dD_twoAtOnce_40 mO_E_meetsOther lV_D_382 sh_12 (by decide) cl_2 rfl rfl rfl rfl rfl rfl ?_
      exact H
    · have H := H.2 c3
      show Wq 3 0 0 mD_twoAtOnce 28 [iR 0, iI x1, iI x2, iI x3] [vI 0] M _
      obtain ⟨s4, H⟩ := H
      refine wq_if_eq (pc := 28) (tgt := 52) dD_twoAtOnce_28 (by decide) (fun _ => ?_) (fun q => absurd (by decide) q)
      refine wq_iinc (pc := 52) (lo' := [iR 0, iI x1, iI x2, iI (x3 + 1)]) dD_twoAtOnce_52 rfl rfl (by rw [show wr (x3 + 1) = x3 + 1 from (Eq.trans (wr_eq (by omega) (by omega)) (by omega))]; rfl) ?_
      refine wq_goto (pc := 55) (tgt := 9) dD_twoAtOnce_55 (by decide) ?_
      exact H

set_option maxRecDepth 20000 in
theorem B_D_twoAtOnce_43 {x1 x2 x3 y0 : Int} {M : Mm} {Q : Mm → Option Mv → Prop} (H : ((y0 = 0 → ((-2147483648 ≤ x3 + 1 ∧ x3 + 1 < 2147483648) ∧ Wq 3 0 0 mD_twoAtOnce 9 [iR 0, iI x1, iI x2, iI (x3 + 1)] [] M Q)) ∧ (¬ y0 = 0 → ((-2147483648 ≤ x3 + 1 ∧ x3 + 1 < 2147483648) ∧ Wq 3 0 0 mD_twoAtOnce 9 [iR 0, iI x1, iI (bOr x2 (bShl 1 x3)), iI (x3 + 1)] [] M Q)))) : Wq 3 0 0 mD_twoAtOnce 43 [iR 0, iI x1, iI x2, iI x3] [vI y0] M Q := by
  refine wq_if_eq (pc := 43) (tgt := 52) dD_twoAtOnce_43 (by decide) (fun c1 => ?_) (fun c1 => ?_)
  · have H := H.1 c1
    obtain ⟨s2, H⟩ := H
    refine wq_iinc (pc := 52) (lo' := [iR 0, iI x1, iI x2, iI (x3 + 1)]) dD_twoAtOnce_52 rfl rfl (by rw [show wr (x3 + 1) = x3 + 1 from (Eq.trans (wr_eq (by omega) (by omega)) (by omega))]; rfl) ?_
    refine wq_goto (pc := 55) (tgt := 9) dD_twoAtOnce_55 (by decide) ?_
    exact H
  · have H := H.2 c1
    obtain ⟨s3, H⟩ := H
    refine wq_iload_n (pc := 46) dD_twoAtOnce_46 rfl rfl ?_
    refine wq_iconst (pc := 47) dD_twoAtOnce_47 rfl ?_
    refine wq_iload_n (pc := 48) dD_twoAtOnce_48 rfl rfl ?_
    refine wq_ishl (pc := 49) dD_twoAtOnce_49 ?_
    refine wq_ior (pc := 50) dD_twoAtOnce_50 ?_
    refine wq_istore_n (pc := 51) (lo' := [iR 0, iI x1, iI (bOr x2 (bShl 1 x3)), iI x3]) dD_twoAtOnce_51 rfl rfl rfl ?_
    refine wq_iinc (pc := 52) (lo' := [iR 0, iI x1, iI (bOr x2 (bShl 1 x3)), iI (x3 + 1)]) dD_twoAtOnce_52 rfl rfl (by rw [show wr (x3 + 1) = x3 + 1 from (Eq.trans (wr_eq (by omega) (by omega)) (by omega))]; rfl) ?_
    refine wq_goto (pc := 55) (tgt := 9) dD_twoAtOnce_55 (by decide) ?_
    exact H
set_option maxRecDepth 20000 in
theorem B_D_claim_0 {x1 : Int} {M : Mm} {Q : Mm → Option Mv → Prop} (hS : RefOK M) (H : ((x1 = 0 → Wq 54 0 0 mD_bearing 0 [iR 0, iI 1, none, none, none] [] M (fun M' v => Wq 55 0 0 mD_claim 46 [iR 0, iI x1] (v.toList ++ [vR 0]) M' Q)) ∧ (x1 = 1 → Wq 54 0 0 mD_bearing 0 [iR 0, iI 1, none, none, none] [] M (fun M' v => Wq 55 0 0 mD_claim 62 [iR 0, iI x1] (v.toList ++ [vR 0]) M' Q)) ∧ (x1 = 2 → Wq 54 0 0 mD_bearing 0 [iR 0, iI 2, none, none, none] [] M (fun M' v => Wq 55 0 0 mD_claim 72 [iR 0, iI x1] (v.toList ++ [vR 0]) M' Q)) ∧ (x1 = 3 → Wq 2 0 0 mD_knownToday 0 [iR 0] [] M (fun M' v => Wq 55 0 0 mD_claim 81 [iR 0, iI x1] (v.toList ++ [vR 0]) M' Q)) ∧ (x1 = 4 → Wq 54 0 0 mD_bearing 0 [iR 0, iI 1, none, none, none] [] M (fun M' v => Wq 55 0 0 mD_claim 100 [iR 0, iI x1] (v.toList ++ []) M' Q)) ∧ (x1 = 5 → Wq 3 0 0 mD_twoAtOnce 0 [iR 0, none, none, none] [] M (fun M' v => Wq 55 0 0 mD_claim 105 [iR 0, iI x1] (v.toList ++ []) M' Q)) ∧ (¬ x1 = 0 ∧ ¬ x1 = 1 ∧ ¬ x1 = 2 ∧ ¬ x1 = 3 ∧ ¬ x1 = 4 ∧ ¬ x1 = 5 → Q (sI M 69 1 (wr (gI M 69 1 + 1))) (some (vI (-1000001)))))) : Wq 55 0 0 mD_claim 0 [iR 0, iI x1] [] M Q := by
  refine wq_iload_n (pc := 0) dD_claim_0 rfl rfl ?_
  by_cases c1 : x1 = 0
  · refine wq_tabIn (pc := 1) (tgt := 40) dD_claim_1 (by rw [c1]; decide) (by rw [c1]; decide) (by rw [c1]; rfl) (by decide) ?_
    have H := H.1 c1
    refine wq_aload_n (pc := 40) dD_claim_40 rfl rfl ?_
    refine wq_aload_n (pc := 41) dD_claim_41 rfl rfl ?_
    refine wq_iconst (pc := 42) dD_claim_42 rfl ?_
    refine wq_callV (d' := 54) (pc := 43) (as := [vI 1]) (rest := [vR 0]) (lo' := [iR 0, iI 1, none, none, none]) dD_claim_43 mO_D_bearing lV_D_266 sh_0 (by decide) cl_10 rfl rfl rfl rfl rfl rfl ?_
    exact H
  by_cases c2 : x1 = 1
  · refine wq_tabIn (pc := 1) (tgt := 56) dD_claim_1 (by rw [c2]; decide) (by rw [c2]; decide) (by rw [c2]; rfl) (by decide) ?_
    have H := H.2.1 c2
    refine wq_aload_n (pc := 56) dD_claim_56 rfl rfl ?_
    refine wq_aload_n (pc := 57) dD_claim_57 rfl rfl ?_
    refine wq_iconst (pc := 58) dD_claim_58 rfl ?_
    refine wq_callV (d' := 54) (pc := 59) (as := [vI 1]) (rest := [vR 0]) (lo' := [iR 0, iI 1, none, none, none]) dD_claim_59 mO_D_bearing lV_D_266 sh_0 (by decide) cl_10 rfl rfl rfl rfl rfl rfl ?_
    exact H
  by_cases c3 : x1 = 2
  · refine wq_tabIn (pc := 1) (tgt := 66) dD_claim_1 (by rw [c3]; decide) (by rw [c3]; decide) (by rw [c3]; rfl) (by decide) ?_
    have H := H.2.2.1 c3
    refine wq_aload_n (pc := 66) dD_claim_66 rfl rfl ?_
    refine wq_aload_n (pc := 67) dD_claim_67 rfl rfl ?_
    refine wq_iconst (pc := 68) dD_claim_68 rfl ?_
    refine wq_callV (d' := 54) (pc := 69) (as := [vI 2]) (rest := [vR 0]) (lo' := [iR 0, iI 2, none, none, none]) dD_claim_69 mO_D_bearing lV_D_266 sh_0 (by decide) cl_10 rfl rfl rfl rfl rfl rfl ?_
    exact H
  by_cases c4 : x1 = 3
  · refine wq_tabIn (pc := 1) (tgt := 76) dD_claim_1 (by rw [c4]; decide) (by rw [c4]; decide) (by rw [c4]; rfl) (by decide) ?_
    have H := H.2.2.2.1 c4
    refine wq_aload_n (pc := 76) dD_claim_76 rfl rfl ?_
    refine wq_aload_n (pc := 77) dD_claim_77 rfl rfl ?_
    refine wq_callV (d' := 2) (pc := 78) (as := []) (rest := [vR 0]) (lo' := [iR 0]) dD_claim_78 mO_D_knownToday lV_D_272 sh_0 (by decide) cl_10 rfl rfl rfl rfl rfl rfl ?_
    exact H
  by_cases c5 : x1 = 4
  · refine wq_tabIn (pc := 1) (tgt := 95) dD_claim_1 (by rw [c5]; decide) (by rw [c5]; decide) (by rw [c5]; rfl) (by decide) ?_
    have H := H.2.2.2.2.1 c5
    refine wq_aload_n (pc := 95) dD_claim_95 rfl rfl ?_
    refine wq_iconst (pc := 96) dD_claim_96 rfl ?_
    refine wq_callV (d' := 54) (pc := 97) (as := [vI 1]) (rest := []) (lo' := [iR 0, iI 1, none, none, none]) dD_claim_97 mO_D_bearing lV_D_266 sh_0 (by decide) cl_10 rfl rfl rfl rfl rfl rfl ?_
    exact H
  by_cases c6 : x1 = 5
  · refine wq_tabIn (pc := 1) (tgt := 101) dD_claim_1 (by rw [c6]; decide) (by rw [c6]; decide) (by rw [c6]; rfl) (by decide) ?_
    have H := H.2.2.2.2.2.1 c6
    refine wq_aload_n (pc := 101) dD_claim_101 rfl rfl ?_
    refine wq_callV (d' := 3) (pc := 102) (as := []) (rest := []) (lo' := [iR 0, none, none, none]) dD_claim_102 mO_D_twoAtOnce lV_D_275 sh_0 (by decide) cl_10 rfl rfl rfl rfl rfl rfl ?_
    exact H
  refine wq_tabOut (pc := 1) (tgt := 106) dD_claim_1 (by omega) (by decide) ?_
  have H := H.2.2.2.2.2.2 (by omega)
  refine wq_aload_n (pc := 106) dD_claim_106 rfl rfl ?_
  refine wq_ldc (pc := 107) (z := (-1000001)) dD_claim_107 kO_D_69 (by decide) ?_
  refine wq_callV (d' := 2) (pc := 109) (as := [vI (-1000001)]) (rest := []) (lo' := [iR 0, iI ((-1000001)), none]) dD_claim_109 mO_D_finding lV_D_70 sh_0 (by decide) cl_10 rfl rfl rfl rfl rfl rfl ?_
  refine sp_D_finding (k := 1) (by decide) (by decide) (by decide) hS ?_
  show Wq 55 0 0 mD_claim 112 [iR 0, iI x1] [vI (-1000001)] (sI M 69 1 (wr (gI M 69 1 + 1))) _
  refine wq_ireturn (pc := 112) dD_claim_112 trivial ?_
  exact H

set_option maxRecDepth 20000 in
theorem B_D_claim_46 {x1 y0 : Int} {M : Mm} {Q : Mm → Option Mv → Prop} (H : Wq 4 0 0 mD_endOf 0 [iR 0, iI y0] [] M (fun M' v => Wq 55 0 0 mD_claim 49 [iR 0, iI x1] (v.toList ++ []) M' Q)) : Wq 55 0 0 mD_claim 46 [iR 0, iI x1] [vI y0, vR 0] M Q := by
  refine wq_callV (d' := 4) (pc := 46) (as := [vI y0]) (rest := []) (lo' := [iR 0, iI y0]) dD_claim_46 mO_D_endOf lV_D_192 sh_0 (by decide) cl_10 rfl rfl rfl rfl rfl rfl ?_
  exact H

set_option maxRecDepth 20000 in
theorem B_D_claim_49 {x1 y0 : Int} {M : Mm} {Q : Mm → Option Mv → Prop} (H : Wq 4 0 0 mD_endOf 0 [iR 0, iI 0] [] M (fun M' v => Wq 55 0 0 mD_claim 54 [iR 0, iI x1] (v.toList ++ [vI y0]) M' Q)) : Wq 55 0 0 mD_claim 49 [iR 0, iI x1] [vI y0] M Q := by
  refine wq_aload_n (pc := 49) dD_claim_49 rfl rfl ?_
  refine wq_iconst (pc := 50) dD_claim_50 rfl ?_
  refine wq_callV (d' := 4) (pc := 51) (as := [vI 0]) (rest := [vI y0]) (lo' := [iR 0, iI 0]) dD_claim_51 mO_D_endOf lV_D_192 sh_0 (by decide) cl_10 rfl rfl rfl rfl rfl rfl ?_
  exact H

set_option maxRecDepth 20000 in
theorem B_D_claim_54 {x1 y0 y1 : Int} {M : Mm} {Q : Mm → Option Mv → Prop} (H : ((-2147483648 ≤ y1 - y0 ∧ y1 - y0 < 2147483648) ∧ Q M (some (vI (y1 - y0))))) : Wq 55 0 0 mD_claim 54 [iR 0, iI x1] [vI y0, vI y1] M Q := by
  obtain ⟨s1, H⟩ := H
  refine wq_isub (pc := 54) dD_claim_54 ?_
  refine wq_re (x := (wr (y1 - y0))) (y := (y1 - y0)) (Eq.trans (wr_eq (by omega) (by omega)) (by omega)) ?_
  refine wq_ireturn (pc := 55) dD_claim_55 trivial ?_
  exact H

set_option maxRecDepth 20000 in
theorem B_D_claim_62 {x1 y0 : Int} {M : Mm} {Q : Mm → Option Mv → Prop} (H : Wq 4 0 0 mD_endOf 0 [iR 0, iI y0] [] M (fun M' v => Wq 55 0 0 mD_claim 65 [iR 0, iI x1] (v.toList ++ []) M' Q)) : Wq 55 0 0 mD_claim 62 [iR 0, iI x1] [vI y0, vR 0] M Q := by
  refine wq_callV (d' := 4) (pc := 62) (as := [vI y0]) (rest := []) (lo' := [iR 0, iI y0]) dD_claim_62 mO_D_endOf lV_D_192 sh_0 (by decide) cl_10 rfl rfl rfl rfl rfl rfl ?_
  exact H

set_option maxRecDepth 20000 in
theorem B_D_claim_65 {x1 y0 : Int} {M : Mm} {Q : Mm → Option Mv → Prop} (H : Q M (some (vI y0))) : Wq 55 0 0 mD_claim 65 [iR 0, iI x1] [vI y0] M Q := by
  refine wq_ireturn (pc := 65) dD_claim_65 trivial ?_
  exact H

set_option maxRecDepth 20000 in
theorem B_D_claim_72 {x1 y0 : Int} {M : Mm} {Q : Mm → Option Mv → Prop} (H : Wq 54 0 0 mD_paidFor 0 [iR 0, iI y0, none, none] [] M (fun M' v => Wq 55 0 0 mD_claim 75 [iR 0, iI x1] (v.toList ++ []) M' Q)) : Wq 55 0 0 mD_claim 72 [iR 0, iI x1] [vI y0, vR 0] M Q := by
  refine wq_callV (d' := 54) (pc := 72) (as := [vI y0]) (rest := []) (lo' := [iR 0, iI y0, none, none]) dD_claim_72 mO_D_paidFor lV_D_269 sh_0 (by decide) cl_10 rfl rfl rfl rfl rfl rfl ?_
  exact H

set_option maxRecDepth 20000 in
theorem B_D_claim_75 {x1 y0 : Int} {M : Mm} {Q : Mm → Option Mv → Prop} (H : Q M (some (vI y0))) : Wq 55 0 0 mD_claim 75 [iR 0, iI x1] [vI y0] M Q := by
  refine wq_ireturn (pc := 75) dD_claim_75 trivial ?_
  exact H

set_option maxRecDepth 20000 in
theorem B_D_claim_81 {x1 y0 : Int} {M : Mm} {Q : Mm → Option Mv → Prop} (H : Wq 4 0 0 mD_endOf 0 [iR 0, iI y0] [] M (fun M' v => Wq 55 0 0 mD_claim 84 [iR 0, iI x1] (v.toList ++ []) M' Q)) : Wq 55 0 0 mD_claim 81 [iR 0, iI x1] [vI y0, vR 0] M Q := by
  refine wq_callV (d' := 4) (pc := 81) (as := [vI y0]) (rest := []) (lo' := [iR 0, iI y0]) dD_claim_81 mO_D_endOf lV_D_192 sh_0 (by decide) cl_10 rfl rfl rfl rfl rfl rfl ?_
  exact H

set_option maxRecDepth 20000 in
theorem B_D_claim_84 {x1 y0 : Int} {M : Mm} {Q : Mm → Option Mv → Prop} (H : Wq 54 0 0 mD_bearing 0 [iR 0, iI 1, none, none, none] [] M (fun M' v => Wq 55 0 0 mD_claim 90 [iR 0, iI x1] (v.toList ++ [vR 0, vI y0]) M' Q)) : Wq 55 0 0 mD_claim 84 [iR 0, iI x1] [vI y0] M Q := by
  refine wq_aload_n (pc := 84) dD_claim_84 rfl rfl ?_
  refine wq_aload_n (pc := 85) dD_claim_85 rfl rfl ?_
  refine wq_iconst (pc := 86) dD_claim_86 rfl ?_
  refine wq_callV (d' := 54) (pc := 87) (as := [vI 1]) (rest := [vR 0, vI y0]) (lo' := [iR 0, iI 1, none, none, none]) dD_claim_87 mO_D_bearing lV_D_266 sh_0 (by decide) cl_10 rfl rfl rfl rfl rfl rfl ?_
  exact H

set_option maxRecDepth 20000 in
theorem B_D_claim_90 {x1 y0 y2 : Int} {M : Mm} {Q : Mm → Option Mv → Prop} (H : Wq 4 0 0 mD_endOf 0 [iR 0, iI y0] [] M (fun M' v => Wq 55 0 0 mD_claim 93 [iR 0, iI x1] (v.toList ++ [vI y2]) M' Q)) : Wq 55 0 0 mD_claim 90 [iR 0, iI x1] [vI y0, vR 0, vI y2] M Q := by
  refine wq_callV (d' := 4) (pc := 90) (as := [vI y0]) (rest := [vI y2]) (lo' := [iR 0, iI y0]) dD_claim_90 mO_D_endOf lV_D_192 sh_0 (by decide) cl_10 rfl rfl rfl rfl rfl rfl ?_
  exact H

set_option maxRecDepth 20000 in
theorem B_D_claim_93 {x1 y0 y1 : Int} {M : Mm} {Q : Mm → Option Mv → Prop} (H : ((-2147483648 ≤ y1 - y0 ∧ y1 - y0 < 2147483648) ∧ Q M (some (vI (y1 - y0))))) : Wq 55 0 0 mD_claim 93 [iR 0, iI x1] [vI y0, vI y1] M Q := by
  obtain ⟨s1, H⟩ := H
  refine wq_isub (pc := 93) dD_claim_93 ?_
  refine wq_re (x := (wr (y1 - y0))) (y := (y1 - y0)) (Eq.trans (wr_eq (by omega) (by omega)) (by omega)) ?_
  refine wq_ireturn (pc := 94) dD_claim_94 trivial ?_
  exact H

set_option maxRecDepth 20000 in
theorem B_D_claim_100 {x1 y0 : Int} {M : Mm} {Q : Mm → Option Mv → Prop} (H : Q M (some (vI y0))) : Wq 55 0 0 mD_claim 100 [iR 0, iI x1] [vI y0] M Q := by
  refine wq_ireturn (pc := 100) dD_claim_100 trivial ?_
  exact H

set_option maxRecDepth 20000 in
theorem B_D_claim_105 {x1 y0 : Int} {M : Mm} {Q : Mm → Option Mv → Prop} (H : Q M (some (vI y0))) : Wq 55 0 0 mD_claim 105 [iR 0, iI x1] [vI y0] M Q := by
  refine wq_ireturn (pc := 105) dD_claim_105 trivial ?_
  exact H
set_option maxRecDepth 20000 in
theorem B_E_noticeAfter_0 {x1 : Int} {M : Mm} {Q : Mm → Option Mv → Prop} (hS : RefOK M) (H : ((0 ≤ x1 ∧ x1 < 20) ∧ ((0 ≤ gI M 17 x1 → ((-2147483648 ≤ gI M 17 x1 - gI M 15 x1 ∧ gI M 17 x1 - gI M 15 x1 < 2147483648) ∧ Q M (some (vI (gI M 17 x1 - gI M 15 x1))))) ∧ (¬ 0 ≤ gI M 17 x1 → Q M (some (vI 999)))))) : Wq 1 0 0 mE_noticeAfter 0 [iR 12, iI x1] [] M Q := by
  obtain ⟨s1, H⟩ := H
  refine wq_aload_n (pc := 0) dE_noticeAfter_0 rfl rfl ?_
  refine wq_getR (pc := 1) (z := 4) (b := 17) dE_noticeAfter_1 fO_E_24 sh_12 rfl rfl (rf_12_4 hS) ?_
  refine wq_iload_n (pc := 4) dE_noticeAfter_4 rfl rfl ?_
  refine wq_iald (pc := 5) dE_noticeAfter_5 sh_17 s1.1 s1.2 ?_
  refine wq_if_ge (pc := 6) (tgt := 15) dE_noticeAfter_6 (by decide) (fun c2 => ?_) (fun c2 => ?_)
  · have H := H.1 c2
    obtain ⟨s3, H⟩ := H
    refine wq_aload_n (pc := 15) dE_noticeAfter_15 rfl rfl ?_
    refine wq_getR (pc := 16) (z := 4) (b := 17) dE_noticeAfter_16 fO_E_24 sh_12 rfl rfl (rf_12_4 hS) ?_
    refine wq_iload_n (pc := 19) dE_noticeAfter_19 rfl rfl ?_
    refine wq_iald (pc := 20) dE_noticeAfter_20 sh_17 s1.1 s1.2 ?_
    refine wq_aload_n (pc := 21) dE_noticeAfter_21 rfl rfl ?_
    refine wq_getR (pc := 22) (z := 2) (b := 15) dE_noticeAfter_22 fO_E_18 sh_12 rfl rfl (rf_12_2 hS) ?_
    refine wq_iload_n (pc := 25) dE_noticeAfter_25 rfl rfl ?_
    refine wq_iald (pc := 26) dE_noticeAfter_26 sh_15 s1.1 s1.2 ?_
    refine wq_isub (pc := 27) dE_noticeAfter_27 ?_
    refine wq_re (x := (wr (gI M 17 x1 - gI M 15 x1))) (y := (gI M 17 x1 - gI M 15 x1)) (Eq.trans (wr_eq (by omega) (by omega)) (by omega)) ?_
    refine wq_ireturn (pc := 28) dE_noticeAfter_28 trivial ?_
    exact H
  · have H := H.2 c2
    refine wq_sipush (pc := 9) dE_noticeAfter_9 rfl ?_
    refine wq_goto (pc := 12) (tgt := 28) dE_noticeAfter_12 (by decide) ?_
    refine wq_ireturn (pc := 28) dE_noticeAfter_28 trivial ?_
    exact H
set_option maxRecDepth 20000 in
theorem B_E_meetsOther_0 {x1 x2 : Int} {M : Mm} {Q : Mm → Option Mv → Prop} (H : Wq 2 0 0 mE_meetsOther 2 [iR 12, iI x1, iI x2, iI 0, none] [] M Q) : Wq 2 0 0 mE_meetsOther 0 [iR 12, iI x1, iI x2, none, none] [] M Q := by
  refine wq_iconst (pc := 0) dE_meetsOther_0 rfl ?_
  refine wq_istore_n (pc := 1) (lo' := [iR 12, iI x1, iI x2, iI 0, none]) dE_meetsOther_1 rfl rfl rfl ?_
  exact H

set_option maxRecDepth 20000 in
theorem B_E_meetsOther_2 {x1 x2 x3 : Int} {M : Mm} {Q : Mm → Option Mv → Prop} (hS : RefOK M) (H : ((gI M 12 7 ≤ x3 → Q M (some (vI 0))) ∧ (¬ gI M 12 7 ≤ x3 → (((0 ≤ x3 ∧ x3 < 20) ∧ (0 ≤ x1 ∧ x1 < 20) ∧ (-2147483648 ≤ gI M 15 x1 + gI M 16 x1 ∧ gI M 15 x1 + gI M 16 x1 < 2147483648)) ∧ ((gI M 15 x1 + gI M 16 x1 ≤ gI M 15 x3 → ((0 ≤ x2 ∧ x2 < 2147483648 ∧ 0 ≤ x3 ∧ x3 < 32) ∧ ((hb x2 x3 = true → ((gI M 14 x3 = gI M 14 x1 → ((-2147483648 ≤ x3 + 1 ∧ x3 + 1 < 2147483648) ∧ Wq 2 0 0 mE_meetsOther 2 [iR 12, iI x1, iI x2, iI (x3 + 1), none] [] M Q)) ∧ (¬ gI M 14 x3 = gI M 14 x1 → ((-2147483648 ≤ x3 + 1 ∧ x3 + 1 < 2147483648) ∧ Wq 2 0 0 mE_meetsOther 2 [iR 12, iI x1, iI x2, iI (x3 + 1), none] [] M Q)))) ∧ (¬ (hb x2 x3 = true) → ((-2147483648 ≤ x3 + 1 ∧ x3 + 1 < 2147483648) ∧ Wq 2 0 0 mE_meetsOther 2 [iR 12, iI x1, iI x2, iI (x3 + 1), none] [] M Q))))) ∧ (¬ gI M 15 x1 + gI M 16 x1 ≤ gI M 15 x3 → ((-2147483648 ≤ gI M 15 x3 + gI M 16 x3 ∧ gI M 15 x3 + gI M 16 x3 < 2147483648) ∧ ((gI M 15 x3 + gI M 16 x3 ≤ gI M 15 x1 → ((0 ≤ x2 ∧ x2 < 2147483648 ∧ 0 ≤ x3 ∧ x3 < 32) ∧ ((hb x2 x3 = true → ((gI M 14 x3 = gI M 14 x1 → ((-2147483648 ≤ x3 + 1 ∧ x3 + 1 < 2147483648) ∧ Wq 2 0 0 mE_meetsOther 2 [iR 12, iI x1, iI x2, iI (x3 + 1), none] [] M Q)) ∧ (¬ gI M 14 x3 = gI M 14 x1 → ((-2147483648 ≤ x3 + 1 ∧ x3 + 1 < 2147483648) ∧ Wq 2 0 0 mE_meetsOther 2 [iR 12, iI x1, iI x2, iI (x3 + 1), none] [] M Q)))) ∧ (¬ (hb x2 x3 = true) → ((-2147483648 ≤ x3 + 1 ∧ x3 + 1 < 2147483648) ∧ Wq 2 0 0 mE_meetsOther 2 [iR 12, iI x1, iI x2, iI (x3 + 1), none] [] M Q))))) ∧ (¬ gI M 15 x3 + gI M 16 x3 ≤ gI M 15 x1 → ((0 ≤ x2 ∧ x2 < 2147483648 ∧ 0 ≤ x3 ∧ x3 < 32) ∧ ((hb x2 x3 = true → ((gI M 14 x3 = gI M 14 x1 → ((-2147483648 ≤ x3 + 1 ∧ x3 + 1 < 2147483648) ∧ Wq 2 0 0 mE_meetsOther 2 [iR 12, iI x1, iI x2, iI (x3 + 1), none] [] M Q)) ∧ (¬ gI M 14 x3 = gI M 14 x1 → Q M (some (vI 1))))) ∧ (¬ (hb x2 x3 = true) → ((-2147483648 ≤ x3 + 1 ∧ x3 + 1 < 2147483648) ∧ Wq 2 0 0 mE_meetsOther 2 [iR 12, iI x1, iI x2, iI (x3 + 1), none] [] M Q))))))))))))) : Wq 2 0 0 mE_meetsOther 2 [iR 12, iI x1, iI x2, iI x3, none] [] M Q := by
  refine wq_iload_n (pc := 2) dE_meetsOther_2 rfl rfl ?_
  refine wq_aload_n (pc := 3) dE_meetsOther_3 rfl rfl ?_
  refine wq_getI (pc := 4) (z := 7) dE_meetsOther_4 fO_E_33 sh_12 rfl rfl ?_
  refine wq_icmp_ge (pc := 7) (tgt := 97) dE_meetsOther_7 (by decide) (fun c1 => ?_) (fun c1 => ?_)
  · have H := H.1 c1
    refine wq_iconst (pc := 97) dE_meetsOther_97 rfl ?_
    refine wq_ireturn (pc := 98) dE_meetsOther_98 (Or.inl rfl) ?_
    exact H
  · have H := H.2 c1
    obtain ⟨⟨s2, s3, s4⟩, H⟩ := H
    refine wq_aload_n (pc := 10) dE_meetsOther_10 rfl rfl ?_
    refine wq_getR (pc := 11) (z := 2) (b := 15) dE_meetsOther_11 fO_E_18 sh_12 rfl rfl (rf_12_2 hS) ?_
    refine wq_iload_n (pc := 14) dE_meetsOther_14 rfl rfl ?_
    refine wq_iald (pc := 15) dE_meetsOther_15 sh_15 s2.1 s2.2 ?_
    refine wq_aload_n (pc := 16) dE_meetsOther_16 rfl rfl ?_
    refine wq_getR (pc := 17) (z := 2) (b := 15) dE_meetsOther_17 fO_E_18 sh_12 rfl rfl (rf_12_2 hS) ?_
    refine wq_iload_n (pc := 20) dE_meetsOther_20 rfl rfl ?_
    refine wq_iald (pc := 21) dE_meetsOther_21 sh_15 s3.1 s3.2 ?_
    refine wq_aload_n (pc := 22) dE_meetsOther_22 rfl rfl ?_
    refine wq_getR (pc := 23) (z := 3) (b := 16) dE_meetsOther_23 fO_E_21 sh_12 rfl rfl (rf_12_3 hS) ?_
    refine wq_iload_n (pc := 26) dE_meetsOther_26 rfl rfl ?_
    refine wq_iald (pc := 27) dE_meetsOther_27 sh_16 s3.1 s3.2 ?_
    refine wq_iadd (pc := 28) dE_meetsOther_28 ?_
    refine wq_re (x := (wr (gI M 15 x1 + gI M 16 x1))) (y := (gI M 15 x1 + gI M 16 x1)) (Eq.trans (wr_eq (by omega) (by omega)) (by omega)) ?_
    refine wq_icmp_ge (pc := 29) (tgt := 58) dE_meetsOther_29 (by decide) (fun c5 => ?_) (fun c5 => ?_)
    · have H := H.1 c5
      obtain ⟨s6, H⟩ := H
      refine wq_iconst (pc := 58) dE_meetsOther_58 rfl ?_
      refine wq_istore (pc := 59) (lo' := [iR 12, iI x1, iI x2, iI x3, iI 0]) dE_meetsOther_59 rfl rfl ?_
      refine wq_iload_n (pc := 61) dE_meetsOther_61 rfl rfl ?_
      refine wq_iload_n (pc := 62) dE_meetsOther_62 rfl rfl ?_
      refine wq_callS (d' := 1) (pc := 63) (as := [vI x2, vI x3]) (rest := []) (lo' := [iI x2, iI x3]) dE_meetsOther_63 mO_D_holds lS_E_43 rfl rfl rfl rfl rfl rfl ?_
      refine sp_D_holds s6 (fun c7 => ?_) (fun c7 => ?_)
      · have H := H.1 c7
        show Wq 2 0 0 mE_meetsOther 66 [iR 12, iI x1, iI x2, iI x3, iI 0] [vI 1] M _
        refine wq_if_eq (pc := 66) (tgt := 91) dE_meetsOther_66 (by decide) (fun q => absurd q (by decide)) (fun _ => ?_)
        refine wq_aload_n (pc := 69) dE_meetsOther_69 rfl rfl ?_
        refine wq_getR (pc := 70) (z := 1) (b := 14) dE_meetsOther_70 fO_E_15 sh_12 rfl rfl (rf_12_1 hS) ?_
        refine wq_iload_n (pc := 73) dE_meetsOther_73 rfl rfl ?_
        refine wq_iald (pc := 74) dE_meetsOther_74 sh_14 s2.1 s2.2 ?_
        refine wq_aload_n (pc := 75) dE_meetsOther_75 rfl rfl ?_
        refine wq_getR (pc := 76) (z := 1) (b := 14) dE_meetsOther_76 fO_E_15 sh_12 rfl rfl (rf_12_1 hS) ?_
        refine wq_iload_n (pc := 79) dE_meetsOther_79 rfl rfl ?_
        refine wq_iald (pc := 80) dE_meetsOther_80 sh_14 s3.1 s3.2 ?_
        refine wq_icmp_eq (pc := 81) (tgt := 91) dE_meetsOther_81 (by decide) (fun c8 => ?_) (fun c8 => ?_)
        · have H := H.1 c8
          obtain ⟨s9, H⟩ := H
          refine wq_iinc (pc := 91) (lo' := [iR 12, iI x1, iI x2, iI (x3 + 1), iI 0]) dE_meetsOther_91 rfl rfl (by rw [show wr (x3 + 1) = x3 + 1 from (Eq.trans (wr_eq (by omega) (by omega)) (by omega))]; rfl) ?_
          refine wq_goto (pc := 94) (tgt := 2) dE_meetsOther_94 (by decide) ?_
          refine wq_drop [4] (lo' := [iR 12, iI x1, iI x2, iI (x3 + 1), none]) rfl ?_
          exact H
        · have H := H.2 c8
          obtain ⟨s10, H⟩ := H
          refine wq_iload (pc := 84) dE_meetsOther_84 rfl ?_
          refine wq_if_eq (pc := 86) (tgt := 91) dE_meetsOther_86 (by decide) (fun _ => ?_) (fun q => absurd (by decide) q)
          refine wq_iinc (pc := 91) (lo' := [iR 12, iI x1, iI x2, iI (x3 + 1), iI 0]) dE_meetsOther_91 rfl rfl (by rw [show wr (x3 + 1) = x3 + 1 from (Eq.trans (wr_eq (by omega) (by omega)) (by omega))]; rfl) ?_
          refine wq_goto (pc := 94) (tgt := 2) dE_meetsOther_94 (by decide) ?_
          refine wq_drop [4] (lo' := [iR 12, iI x1, iI x2, iI (x3 + 1), none]) rfl ?_
          exact H
      · have H := H.2 c7
        show Wq 2 0 0 mE_meetsOther 66 [iR 12, iI x1, iI x2, iI x3, iI 0] [vI 0] M _
        obtain ⟨s11, H⟩ := H
        refine wq_if_eq (pc := 66) (tgt := 91) dE_meetsOther_66 (by decide) (fun _ => ?_) (fun q => absurd (by decide) q)
        refine wq_iinc (pc := 91) (lo' := [iR 12, iI x1, iI x2, iI (x3 + 1), iI 0]) dE_meetsOther_91 rfl rfl (by rw [show wr (x3 + 1) = x3 + 1 from (Eq.trans (wr_eq (by omega) (by omega)) (by omega))]; rfl) ?_
        refine wq_goto (pc := 94) (tgt := 2) dE_meetsOther_94 (by decide) ?_
        refine wq_drop [4] (lo' := [iR 12, iI x1, iI x2, iI (x3 + 1), none]) rfl ?_
        exact H
    · have H := H.2 c5
      obtain ⟨s12, H⟩ := H
      refine wq_aload_n (pc := 32) dE_meetsOther_32 rfl rfl ?_
      refine wq_getR (pc := 33) (z := 2) (b := 15) dE_meetsOther_33 fO_E_18 sh_12 rfl rfl (rf_12_2 hS) ?_
      refine wq_iload_n (pc := 36) dE_meetsOther_36 rfl rfl ?_
      refine wq_iald (pc := 37) dE_meetsOther_37 sh_15 s3.1 s3.2 ?_
      refine wq_aload_n (pc := 38) dE_meetsOther_38 rfl rfl ?_
      refine wq_getR (pc := 39) (z := 2) (b := 15) dE_meetsOther_39 fO_E_18 sh_12 rfl rfl (rf_12_2 hS) ?_
      refine wq_iload_n (pc := 42) dE_meetsOther_42 rfl rfl ?_
      refine wq_iald (pc := 43) dE_meetsOther_43 sh_15 s2.1 s2.2 ?_
      refine wq_aload_n (pc := 44) dE_meetsOther_44 rfl rfl ?_
      refine wq_getR (pc := 45) (z := 3) (b := 16) dE_meetsOther_45 fO_E_21 sh_12 rfl rfl (rf_12_3 hS) ?_
      refine wq_iload_n (pc := 48) dE_meetsOther_48 rfl rfl ?_
      refine wq_iald (pc := 49) dE_meetsOther_49 sh_16 s2.1 s2.2 ?_
      refine wq_iadd (pc := 50) dE_meetsOther_50 ?_
      refine wq_re (x := (wr (gI M 15 x3 + gI M 16 x3))) (y := (gI M 15 x3 + gI M 16 x3)) (Eq.trans (wr_eq (by omega) (by omega)) (by omega)) ?_
      refine wq_icmp_ge (pc := 51) (tgt := 58) dE_meetsOther_51 (by decide) (fun c13 => ?_) (fun c13 => ?_)
      · have H := H.1 c13
        obtain ⟨s14, H⟩ := H
        refine wq_iconst (pc := 58) dE_meetsOther_58 rfl ?_
        refine wq_istore (pc := 59) (lo' := [iR 12, iI x1, iI x2, iI x3, iI 0]) dE_meetsOther_59 rfl rfl ?_
        refine wq_iload_n (pc := 61) dE_meetsOther_61 rfl rfl ?_
        refine wq_iload_n (pc := 62) dE_meetsOther_62 rfl rfl ?_
        refine wq_callS (d' := 1) (pc := 63) (as := [vI x2, vI x3]) (rest := []) (lo' := [iI x2, iI x3]) dE_meetsOther_63 mO_D_holds lS_E_43 rfl rfl rfl rfl rfl rfl ?_
        refine sp_D_holds s14 (fun c15 => ?_) (fun c15 => ?_)
        · have H := H.1 c15
          show Wq 2 0 0 mE_meetsOther 66 [iR 12, iI x1, iI x2, iI x3, iI 0] [vI 1] M _
          refine wq_if_eq (pc := 66) (tgt := 91) dE_meetsOther_66 (by decide) (fun q => absurd q (by decide)) (fun _ => ?_)
          refine wq_aload_n (pc := 69) dE_meetsOther_69 rfl rfl ?_
          refine wq_getR (pc := 70) (z := 1) (b := 14) dE_meetsOther_70 fO_E_15 sh_12 rfl rfl (rf_12_1 hS) ?_
          refine wq_iload_n (pc := 73) dE_meetsOther_73 rfl rfl ?_
          refine wq_iald (pc := 74) dE_meetsOther_74 sh_14 s2.1 s2.2 ?_
          refine wq_aload_n (pc := 75) dE_meetsOther_75 rfl rfl ?_
          refine wq_getR (pc := 76) (z := 1) (b := 14) dE_meetsOther_76 fO_E_15 sh_12 rfl rfl (rf_12_1 hS) ?_
          refine wq_iload_n (pc := 79) dE_meetsOther_79 rfl rfl ?_
          refine wq_iald (pc := 80) dE_meetsOther_80 sh_14 s3.1 s3.2 ?_
          refine wq_icmp_eq (pc := 81) (tgt := 91) dE_meetsOther_81 (by decide) (fun c16 => ?_) (fun c16 => ?_)
          · have H := H.1 c16
            obtain ⟨s17, H⟩ := H
            refine wq_iinc (pc := 91) (lo' := [iR 12, iI x1, iI x2, iI (x3 + 1), iI 0]) dE_meetsOther_91 rfl rfl (by rw [show wr (x3 + 1) = x3 + 1 from (Eq.trans (wr_eq (by omega) (by omega)) (by omega))]; rfl) ?_
            refine wq_goto (pc := 94) (tgt := 2) dE_meetsOther_94 (by decide) ?_
            refine wq_drop [4] (lo' := [iR 12, iI x1, iI x2, iI (x3 + 1), none]) rfl ?_
            exact H
          · have H := H.2 c16
            obtain ⟨s18, H⟩ := H
            refine wq_iload (pc := 84) dE_meetsOther_84 rfl ?_
            refine wq_if_eq (pc := 86) (tgt := 91) dE_meetsOther_86 (by decide) (fun _ => ?_) (fun q => absurd (by decide) q)
            refine wq_iinc (pc := 91) (lo' := [iR 12, iI x1, iI x2, iI (x3 + 1), iI 0]) dE_meetsOther_91 rfl rfl (by rw [show wr (x3 + 1) = x3 + 1 from (Eq.trans (wr_eq (by omega) (by omega)) (by omega))]; rfl) ?_
            refine wq_goto (pc := 94) (tgt := 2) dE_meetsOther_94 (by decide) ?_
            refine wq_drop [4] (lo' := [iR 12, iI x1, iI x2, iI (x3 + 1), none]) rfl ?_
            exact H
        · have H := H.2 c15
          show Wq 2 0 0 mE_meetsOther 66 [iR 12, iI x1, iI x2, iI x3, iI 0] [vI 0] M _
          obtain ⟨s19, H⟩ := H
          refine wq_if_eq (pc := 66) (tgt := 91) dE_meetsOther_66 (by decide) (fun _ => ?_) (fun q => absurd (by decide) q)
          refine wq_iinc (pc := 91) (lo' := [iR 12, iI x1, iI x2, iI (x3 + 1), iI 0]) dE_meetsOther_91 rfl rfl (by rw [show wr (x3 + 1) = x3 + 1 from (Eq.trans (wr_eq (by omega) (by omega)) (by omega))]; rfl) ?_
          refine wq_goto (pc := 94) (tgt := 2) dE_meetsOther_94 (by decide) ?_
          refine wq_drop [4] (lo' := [iR 12, iI x1, iI x2, iI (x3 + 1), none]) rfl ?_
          exact H
      · have H := H.2 c13
        obtain ⟨s20, H⟩ := H
        refine wq_iconst (pc := 54) dE_meetsOther_54 rfl ?_
        refine wq_goto (pc := 55) (tgt := 59) dE_meetsOther_55 (by decide) ?_
        refine wq_istore (pc := 59) (lo' := [iR 12, iI x1, iI x2, iI x3, iI 1]) dE_meetsOther_59 rfl rfl ?_
        refine wq_iload_n (pc := 61) dE_meetsOther_61 rfl rfl ?_
        refine wq_iload_n (pc := 62) dE_meetsOther_62 rfl rfl ?_
        refine wq_callS (d' := 1) (pc := 63) (as := [vI x2, vI x3]) (rest := []) (lo' := [iI x2, iI x3]) dE_meetsOther_63 mO_D_holds lS_E_43 rfl rfl rfl rfl rfl rfl ?_
        refine sp_D_holds s20 (fun c21 => ?_) (fun c21 => ?_)
        · have H := H.1 c21
          show Wq 2 0 0 mE_meetsOther 66 [iR 12, iI x1, iI x2, iI x3, iI 1] [vI 1] M _
          refine wq_if_eq (pc := 66) (tgt := 91) dE_meetsOther_66 (by decide) (fun q => absurd q (by decide)) (fun _ => ?_)
          refine wq_aload_n (pc := 69) dE_meetsOther_69 rfl rfl ?_
          refine wq_getR (pc := 70) (z := 1) (b := 14) dE_meetsOther_70 fO_E_15 sh_12 rfl rfl (rf_12_1 hS) ?_
          refine wq_iload_n (pc := 73) dE_meetsOther_73 rfl rfl ?_
          refine wq_iald (pc := 74) dE_meetsOther_74 sh_14 s2.1 s2.2 ?_
          refine wq_aload_n (pc := 75) dE_meetsOther_75 rfl rfl ?_
          refine wq_getR (pc := 76) (z := 1) (b := 14) dE_meetsOther_76 fO_E_15 sh_12 rfl rfl (rf_12_1 hS) ?_
          refine wq_iload_n (pc := 79) dE_meetsOther_79 rfl rfl ?_
          refine wq_iald (pc := 80) dE_meetsOther_80 sh_14 s3.1 s3.2 ?_
          refine wq_icmp_eq (pc := 81) (tgt := 91) dE_meetsOther_81 (by decide) (fun c22 => ?_) (fun c22 => ?_)
          · have H := H.1 c22
            obtain ⟨s23, H⟩ := H
            refine wq_iinc (pc := 91) (lo' := [iR 12, iI x1, iI x2, iI (x3 + 1), iI 1]) dE_meetsOther_91 rfl rfl (by rw [show wr (x3 + 1) = x3 + 1 from (Eq.trans (wr_eq (by omega) (by omega)) (by omega))]; rfl) ?_
            refine wq_goto (pc := 94) (tgt := 2) dE_meetsOther_94 (by decide) ?_
            refine wq_drop [4] (lo' := [iR 12, iI x1, iI x2, iI (x3 + 1), none]) rfl ?_
            exact H
          · have H := H.2 c22
            refine wq_iload (pc := 84) dE_meetsOther_84 rfl ?_
            refine wq_if_eq (pc := 86) (tgt := 91) dE_meetsOther_86 (by decide) (fun q => absurd q (by decide)) (fun _ => ?_)
            refine wq_iconst (pc := 89) dE_meetsOther_89 rfl ?_
            refine wq_ireturn (pc := 90) dE_meetsOther_90 (Or.inr rfl) ?_
            exact H
        · have H := H.2 c21
          show Wq 2 0 0 mE_meetsOther 66 [iR 12, iI x1, iI x2, iI x3, iI 1] [vI 0] M _
          obtain ⟨s24, H⟩ := H
          refine wq_if_eq (pc := 66) (tgt := 91) dE_meetsOther_66 (by decide) (fun _ => ?_) (fun q => absurd (by decide) q)
          refine wq_iinc (pc := 91) (lo' := [iR 12, iI x1, iI x2, iI (x3 + 1), iI 1]) dE_meetsOther_91 rfl rfl (by rw [show wr (x3 + 1) = x3 + 1 from (Eq.trans (wr_eq (by omega) (by omega)) (by omega))]; rfl) ?_
          refine wq_goto (pc := 94) (tgt := 2) dE_meetsOther_94 (by decide) ?_
          refine wq_drop [4] (lo' := [iR 12, iI x1, iI x2, iI (x3 + 1), none]) rfl ?_
          exact H
