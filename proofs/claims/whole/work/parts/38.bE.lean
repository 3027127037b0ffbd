set_option maxRecDepth 20000 in
theorem B_D_sheet_0 {x1 x2 x3 : Int} {M : Mm} {Q : Mm → Option Mv → Prop} (hS : RefOK M) (H : ((0 ≤ x1 ∧ x1 ≤ 3 → ((x2 = 0 → ((x2 = 0 → ((x2 = 0 → Wq 3 0 0 mD_sheet 73 [iR 0, iI x1, iI x2, iI x3] [vI x1, vR 68] M Q) ∧ (¬ x2 = 0 → ((x3 ≤ 24 → Wq 3 0 0 mD_sheet 73 [iR 0, iI x1, iI x2, iI x3] [vI x1, vR 68] M Q) ∧ (¬ x3 ≤ 24 → Q (sI M 69 1 (wr (gI M 69 1 + 1))) (some (vI (-1000001)))))))) ∧ (¬ x2 = 0 → ((0 ≤ x3 → ((x2 = 0 → Wq 3 0 0 mD_sheet 73 [iR 0, iI x1, iI x2, iI x3] [vI x1, vR 68] M Q) ∧ (¬ x2 = 0 → ((x3 ≤ 24 → Wq 3 0 0 mD_sheet 73 [iR 0, iI x1, iI x2, iI x3] [vI x1, vR 68] M Q) ∧ (¬ x3 ≤ 24 → Q (sI M 69 1 (wr (gI M 69 1 + 1))) (some (vI (-1000001)))))))) ∧ (¬ 0 ≤ x3 → Q (sI M 69 3 (wr (gI M 69 3 + 1))) (some (vI (-1000003)))))))) ∧ (¬ x2 = 0 → ((x2 = 8 → ((x2 = 0 → ((x2 = 0 → Wq 3 0 0 mD_sheet 73 [iR 0, iI x1, iI x2, iI x3] [vI x1, vR 68] M Q) ∧ (¬ x2 = 0 → ((x3 ≤ 24 → Wq 3 0 0 mD_sheet 73 [iR 0, iI x1, iI x2, iI x3] [vI x1, vR 68] M Q) ∧ (¬ x3 ≤ 24 → Q (sI M 69 1 (wr (gI M 69 1 + 1))) (some (vI (-1000001)))))))) ∧ (¬ x2 = 0 → ((0 ≤ x3 → ((x2 = 0 → Wq 3 0 0 mD_sheet 73 [iR 0, iI x1, iI x2, iI x3] [vI x1, vR 68] M Q) ∧ (¬ x2 = 0 → ((x3 ≤ 24 → Wq 3 0 0 mD_sheet 73 [iR 0, iI x1, iI x2, iI x3] [vI x1, vR 68] M Q) ∧ (¬ x3 ≤ 24 → Q (sI M 69 1 (wr (gI M 69 1 + 1))) (some (vI (-1000001)))))))) ∧ (¬ 0 ≤ x3 → Q (sI M 69 3 (wr (gI M 69 3 + 1))) (some (vI (-1000003)))))))) ∧ (¬ x2 = 8 → ((x2 = 16 → ((x2 = 0 → ((x2 = 0 → Wq 3 0 0 mD_sheet 73 [iR 0, iI x1, iI x2, iI x3] [vI x1, vR 68] M Q) ∧ (¬ x2 = 0 → ((x3 ≤ 24 → Wq 3 0 0 mD_sheet 73 [iR 0, iI x1, iI x2, iI x3] [vI x1, vR 68] M Q) ∧ (¬ x3 ≤ 24 → Q (sI M 69 1 (wr (gI M 69 1 + 1))) (some (vI (-1000001)))))))) ∧ (¬ x2 = 0 → ((0 ≤ x3 → ((x2 = 0 → Wq 3 0 0 mD_sheet 73 [iR 0, iI x1, iI x2, iI x3] [vI x1, vR 68] M Q) ∧ (¬ x2 = 0 → ((x3 ≤ 24 → Wq 3 0 0 mD_sheet 73 [iR 0, iI x1, iI x2, iI x3] [vI x1, vR 68] M Q) ∧ (¬ x3 ≤ 24 → Q (sI M 69 1 (wr (gI M 69 1 + 1))) (some (vI (-1000001)))))))) ∧ (¬ 0 ≤ x3 → Q (sI M 69 3 (wr (gI M 69 3 + 1))) (some (vI (-1000003)))))))) ∧ (¬ x2 = 16 → ((x2 = 32 → ((x2 = 0 → ((x2 = 0 → Wq 3 0 0 mD_sheet 73 [iR 0, iI x1, iI x2, iI x3] [vI x1, vR 68] M Q) ∧ (¬ x2 = 0 → ((x3 ≤ 24 → Wq 3 0 0 mD_sheet 73 [iR 0, iI x1, iI x2, iI x3] [vI x1, vR 68] M Q) ∧ (¬ x3 ≤ 24 → Q (sI M 69 1 (wr (gI M 69 1 + 1))) (some (vI (-1000001)))))))) ∧ (¬ x2 = 0 → ((0 ≤ x3 → ((x2 = 0 → Wq 3 0 0 mD_sheet 73 [iR 0, iI x1, iI x2, iI x3] [vI x1, vR 68] M Q) ∧ (¬ x2 = 0 → ((x3 ≤ 24 → Wq 3 0 0 mD_sheet 73 [iR 0, iI x1, iI x2, iI x3] [vI x1, vR 68] M Q) ∧ (¬ x3 ≤ 24 → Q (sI M 69 1 (wr (gI M 69 1 + 1))) (some (vI (-1000001)))))))) ∧ (¬ 0 ≤ x3 → Q (sI M 69 3 (wr (gI M 69 3 + 1))) (some (vI (-1000003)))))))) ∧ (¬ x2 = 32 → Q (sI M 69 1 (wr (gI M 69 1 + 1))) (some (vI (-1000001)))))))))))) ∧ (¬ (0 ≤ x1 ∧ x1 ≤ 3) → Q (sI M 69 1 (wr (gI M 69 1 + 1))) (some (vI (-1000001)))))) : Wq 3 0 0 mD_sheet 0 [iR 0, iI x1, iI x2, iI x3] [] M Q := by
  refine wq_iload_n (pc := 0) dD_sheet_0 rfl rfl ?_
  refine wq_callS (d' := 2) (pc := 1) (as := [vI x1]) (rest := []) (lo' := [iI x1]) dD_sheet_1 mO_D_isSheet lS_D_284 rfl rfl rfl rfl rfl rfl ?_
  refine sp_D_isSheet (fun c1 => ?_) (fun c1 => ?_)
  · have H := H.1 c1
    show Wq 3 0 0 mD_sheet 4 [iR 0, iI x1, iI x2, iI x3] [vI 1] M _
    refine wq_if_eq (pc := 4) (tgt := 29) dD_sheet_4 (by decide) (fun q => absurd q (by decide)) (fun _ => ?_)
    refine wq_iload_n (pc := 7) dD_sheet_7 rfl rfl ?_
    refine wq_if_eq (pc := 8) (tgt := 36) dD_sheet_8 (by decide) (fun c2 => ?_) (fun c2 => ?_)
    · have H := H.1 c2
      refine wq_iload_n (pc := 36) dD_sheet_36 rfl rfl ?_
      refine wq_if_eq (pc := 37) (tgt := 51) dD_sheet_37 (by decide) (fun c3 => ?_) (fun c3 => ?_)
      · have H := H.1 c3
        refine wq_iload_n (pc := 51) dD_sheet_51 rfl rfl ?_
        refine wq_if_eq (pc := 52) (tgt := 68) dD_sheet_52 (by decide) (fun c4 => ?_) (fun c4 => ?_)
        · have H := H.1 c4
          refine wq_aload_n (pc := 68) dD_sheet_68 rfl rfl ?_
          refine wq_getR (pc := 69) (z := 5) (b := 68) dD_sheet_69 fO_D_42 sh_0 rfl rfl (rf_0_5 hS) ?_
          refine wq_iload_n (pc := 72) dD_sheet_72 rfl rfl ?_
          exact H
        · have H := H.2 c4
          refine wq_iload_n (pc := 55) dD_sheet_55 rfl rfl ?_
          refine wq_bipush (pc := 56) dD_sheet_56 rfl ?_
          refine wq_icmp_le (pc := 58) (tgt := 68) dD_sheet_58 (by decide) (fun c5 => ?_) (fun c5 => ?_)
          · have H := H.1 c5
            refine wq_aload_n (pc := 68) dD_sheet_68 rfl rfl ?_
            refine wq_getR (pc := 69) (z := 5) (b := 68) dD_sheet_69 fO_D_42 sh_0 rfl rfl (rf_0_5 hS) ?_
            refine wq_iload_n (pc := 72) dD_sheet_72 rfl rfl ?_
            exact H
          · have H := H.2 c5
            refine wq_aload_n (pc := 61) dD_sheet_61 rfl rfl ?_
            refine wq_ldc (pc := 62) (z := (-1000001)) dD_sheet_62 kO_D_69 (by decide) ?_
            refine wq_callV (d' := 2) (pc := 64) (as := [vI (-1000001)]) (rest := []) (lo' := [iR 0, iI ((-1000001)), none]) dD_sheet_64 mO_D_finding lV_D_70 sh_0 (by decide) cl_10 rfl rfl rfl rfl rfl rfl ?_
            refine sp_D_finding (k := 1) (by decide) (by decide) (by decide) hS ?_
            show Wq 3 0 0 mD_sheet 67 [iR 0, iI x1, iI x2, iI x3] [vI (-1000001)] (sI M 69 1 (wr (gI M 69 1 + 1))) _
            refine wq_ireturn (pc := 67) dD_sheet_67 trivial ?_
            exact H
      · have H := H.2 c3
        refine wq_iload_n (pc := 40) dD_sheet_40 rfl rfl ?_
        refine wq_if_ge (pc := 41) (tgt := 51) dD_sheet_41 (by decide) (fun c6 => ?_) (fun c6 => ?_)
        · have H := H.1 c6
          refine wq_iload_n (pc := 51) dD_sheet_51 rfl rfl ?_
          refine wq_if_eq (pc := 52) (tgt := 68) dD_sheet_52 (by decide) (fun c7 => ?_) (fun c7 => ?_)
          · have H := H.1 c7
            refine wq_aload_n (pc := 68) dD_sheet_68 rfl rfl ?_
            refine wq_getR (pc := 69) (z := 5) (b := 68) dD_sheet_69 fO_D_42 sh_0 rfl rfl (rf_0_5 hS) ?_
            refine wq_iload_n (pc := 72) dD_sheet_72 rfl rfl ?_
            exact H
          · have H := H.2 c7
            refine wq_iload_n (pc := 55) dD_sheet_55 rfl rfl ?_
            refine wq_bipush (pc := 56) dD_sheet_56 rfl ?_
            refine wq_icmp_le (pc := 58) (tgt := 68) dD_sheet_58 (by decide) (fun c8 => ?_) (fun c8 => ?_)
            · have H := H.1 c8
              refine wq_aload_n (pc := 68) dD_sheet_68 rfl rfl ?_
              refine wq_getR (pc := 69) (z := 5) (b := 68) dD_sheet_69 fO_D_42 sh_0 rfl rfl (rf_0_5 hS) ?_
              refine wq_iload_n (pc := 72) dD_sheet_72 rfl rfl ?_
              exact H
            · have H := H.2 c8
              refine wq_aload_n (pc := 61) dD_sheet_61 rfl rfl ?_
              refine wq_ldc (pc := 62) (z := (-1000001)) dD_sheet_62 kO_D_69 (by decide) ?_
              refine wq_callV (d' := 2) (pc := 64) (as := [vI (-1000001)]) (rest := []) (lo' := [iR 0, iI ((-1000001)), none]) dD_sheet_64 mO_D_finding lV_D_70 sh_0 (by decide) cl_10 rfl rfl rfl rfl rfl rfl ?_
              refine sp_D_finding (k := 1) (by decide) (by decide) (by decide) hS ?_
              show Wq 3 0 0 mD_sheet 67 [iR 0, iI x1, iI x2, iI x3] [vI (-1000001)] (sI M 69 1 (wr (gI M 69 1 + 1))) _
              refine wq_ireturn (pc := 67) dD_sheet_67 trivial ?_
              exact H
        · have H := H.2 c6
          refine wq_aload_n (pc := 44) dD_sheet_44 rfl rfl ?_
          refine wq_ldc (pc := 45) (z := (-1000003)) dD_sheet_45 kO_D_111 (by decide) ?_
          refine wq_callV (d' := 2) (pc := 47) (as := [vI (-1000003)]) (rest := []) (lo' := [iR 0, iI ((-1000003)), none]) dD_sheet_47 mO_D_finding lV_D_70 sh_0 (by decide) cl_10 rfl rfl rfl rfl rfl rfl ?_
          refine sp_D_finding (k := 3) (by decide) (by decide) (by decide) hS ?_
          show Wq 3 0 0 mD_sheet 50 [iR 0, iI x1, iI x2, iI x3] [vI (-1000003)] (sI M 69 3 (wr (gI M 69 3 + 1))) _
          refine wq_ireturn (pc := 50) dD_sheet_50 trivial ?_
          exact H
    · have H := H.2 c2
      refine wq_iload_n (pc := 11) dD_sheet_11 rfl rfl ?_
      refine wq_bipush (pc := 12) dD_sheet_12 rfl ?_
      refine wq_icmp_eq (pc := 14) (tgt := 36) dD_sheet_14 (by decide) (fun c9 => ?_) (fun c9 => ?_)
      · have H := H.1 c9
        refine wq_iload_n (pc := 36) dD_sheet_36 rfl rfl ?_
        refine wq_if_eq (pc := 37) (tgt := 51) dD_sheet_37 (by decide) (fun c10 => ?_) (fun c10 => ?_)
        · have H := H.1 c10
          refine wq_iload_n (pc := 51) dD_sheet_51 rfl rfl ?_
          refine wq_if_eq (pc := 52) (tgt := 68) dD_sheet_52 (by decide) (fun c11 => ?_) (fun c11 => ?_)
          · have H := H.1 c11
            refine wq_aload_n (pc := 68) dD_sheet_68 rfl rfl ?_
            refine wq_getR (pc := 69) (z := 5) (b := 68) dD_sheet_69 fO_D_42 sh_0 rfl rfl (rf_0_5 hS) ?_
            refine wq_iload_n (pc := 72) dD_sheet_72 rfl rfl ?_
            exact H
          · have H := H.2 c11
            refine wq_iload_n (pc := 55) dD_sheet_55 rfl rfl ?_
            refine wq_bipush (pc := 56) dD_sheet_56 rfl ?_
            refine wq_icmp_le (pc := 58) (tgt := 68) dD_sheet_58 (by decide) (fun c12 => ?_) (fun c12 => ?_)
            · have H := H.1 c12
              refine wq_aload_n (pc := 68) dD_sheet_68 rfl rfl ?_
              refine wq_getR (pc := 69) (z := 5) (b := 68) dD_sheet_69 fO_D_42 sh_0 rfl rfl (rf_0_5 hS) ?_
              refine wq_iload_n (pc := 72) dD_sheet_72 rfl rfl ?_
              exact H
            · have H := H.2 c12
              refine wq_aload_n (pc := 61) dD_sheet_61 rfl rfl ?_
              refine wq_ldc (pc := 62) (z := (-1000001)) dD_sheet_62 kO_D_69 (by decide) ?_
              refine wq_callV (d' := 2) (pc := 64) (as := [vI (-1000001)]) (rest := []) (lo' := [iR 0, iI ((-1000001)), none]) dD_sheet_64 mO_D_finding lV_D_70 sh_0 (by decide) cl_10 rfl rfl rfl rfl rfl rfl ?_
              refine sp_D_finding (k := 1) (by decide) (by decide) (by decide) hS ?_
              show Wq 3 0 0 mD_sheet 67 [iR 0, iI x1, iI x2, iI x3] [vI (-1000001)] (sI M 69 1 (wr (gI M 69 1 + 1))) _
              refine wq_ireturn (pc := 67) dD_sheet_67 trivial ?_
              exact H
        · have H := H.2 c10
          refine wq_iload_n (pc := 40) dD_sheet_40 rfl rfl ?_
          refine wq_if_ge (pc := 41) (tgt := 51) dD_sheet_41 (by decide) (fun c13 => ?_) (fun c13 => ?_)
          · have H := H.1 c13
            refine wq_iload_n (pc := 51) dD_sheet_51 rfl rfl ?_
            refine wq_if_eq (pc := 52) (tgt := 68) dD_sheet_52 (by decide) (fun c14 => ?_) (fun c14 => ?_)
            · have H := H.1 c14
              refine wq_aload_n (pc := 68) dD_sheet_68 rfl rfl ?_
              refine wq_getR (pc := 69) (z := 5) (b := 68) dD_sheet_69 fO_D_42 sh_0 rfl rfl (rf_0_5 hS) ?_
              refine wq_iload_n (pc := 72) dD_sheet_72 rfl rfl ?_
              exact H
            · have H := H.2 c14
              refine wq_iload_n (pc := 55) dD_sheet_55 rfl rfl ?_
              refine wq_bipush (pc := 56) dD_sheet_56 rfl ?_
              refine wq_icmp_le (pc := 58) (tgt := 68) dD_sheet_58 (by decide) (fun c15 => ?_) (fun c15 => ?_)
              · have H := H.1 c15
                refine wq_aload_n (pc := 68) dD_sheet_68 rfl rfl ?_
                refine wq_getR (pc := 69) (z := 5) (b := 68) dD_sheet_69 fO_D_42 sh_0 rfl rfl (rf_0_5 hS) ?_
                refine wq_iload_n (pc := 72) dD_sheet_72 rfl rfl ?_
                exact H
              · have H := H.2 c15
                refine wq_aload_n (pc := 61) dD_sheet_61 rfl rfl ?_
                refine wq_ldc (pc := 62) (z := (-1000001)) dD_sheet_62 kO_D_69 (by decide) ?_
                refine wq_callV (d' := 2) (pc := 64) (as := [vI (-1000001)]) (rest := []) (lo' := [iR 0, iI ((-1000001)), none]) dD_sheet_64 mO_D_finding lV_D_70 sh_0 (by decide) cl_10 rfl rfl rfl rfl rfl rfl ?_
                refine sp_D_finding (k := 1) (by decide) (by decide) (by decide) hS ?_
                show Wq 3 0 0 mD_sheet 67 [iR 0, iI x1, iI x2, iI x3] [vI (-1000001)] (sI M 69 1 (wr (gI M 69 1 + 1))) _
                refine wq_ireturn (pc := 67) dD_sheet_67 trivial ?_
                exact H
          · have H := H.2 c13
            refine wq_aload_n (pc := 44) dD_sheet_44 rfl rfl ?_
            refine wq_ldc (pc := 45) (z := (-1000003)) dD_sheet_45 kO_D_111 (by decide) ?_
            refine wq_callV (d' := 2) (pc := 47) (as := [vI (-1000003)]) (rest := []) (lo' := [iR 0, iI ((-1000003)), none]) dD_sheet_47 mO_D_finding lV_D_70 sh_0 (by decide) cl_10 rfl rfl rfl rfl rfl rfl ?_
            refine sp_D_finding (k := 3) (by decide) (by decide) (by decide) hS ?_
            show Wq 3 0 0 mD_sheet 50 [iR 0, iI x1, iI x2, iI x3] [vI (-1000003)] (sI M 69 3 (wr (gI M 69 3 + 1))) _
            refine wq_ireturn (pc := 50) dD_sheet_50 trivial ?_
            exact H
      · have H := H.2 c9
        refine wq_iload_n (pc := 17) dD_sheet_17 rfl rfl ?_
        refine wq_bipush (pc := 18) dD_sheet_18 rfl ?_
        refine wq_icmp_eq (pc := 20) (tgt := 36) dD_sheet_20 (by decide) (fun c16 => ?_) (fun c16 => ?_)
        · have H := H.1 c16
          refine wq_iload_n (pc := 36) dD_sheet_36 rfl rfl ?_
          refine wq_if_eq (pc := 37) (tgt := 51) dD_sheet_37 (by decide) (fun c17 => ?_) (fun c17 => ?_)
          · have H := H.1 c17
            refine wq_iload_n (pc := 51) dD_sheet_51 rfl rfl ?_
            refine wq_if_eq (pc := 52) (tgt := 68) dD_sheet_52 (by decide) (fun c18 => ?_) (fun c18 => ?_)
            · have H := H.1 c18
              refine wq_aload_n (pc := 68) dD_sheet_68 rfl rfl ?_
              refine wq_getR (pc := 69) (z := 5) (b := 68) dD_sheet_69 fO_D_42 sh_0 rfl rfl (rf_0_5 hS) ?_
              refine wq_iload_n (pc := 72) dD_sheet_72 rfl rfl ?_
              exact H
            · have H := H.2 c18
              refine wq_iload_n (pc := 55) dD_sheet_55 rfl rfl ?_
              refine wq_bipush (pc := 56) dD_sheet_56 rfl ?_
              refine wq_icmp_le (pc := 58) (tgt := 68) dD_sheet_58 (by decide) (fun c19 => ?_) (fun c19 => ?_)
              · have H := H.1 c19
                refine wq_aload_n (pc := 68) dD_sheet_68 rfl rfl ?_
                refine wq_getR (pc := 69) (z := 5) (b := 68) dD_sheet_69 fO_D_42 sh_0 rfl rfl (rf_0_5 hS) ?_
                refine wq_iload_n (pc := 72) dD_sheet_72 rfl rfl ?_
                exact H
              · have H := H.2 c19
                refine wq_aload_n (pc := 61) dD_sheet_61 rfl rfl ?_
                refine wq_ldc (pc := 62) (z := (-1000001)) dD_sheet_62 kO_D_69 (by decide) ?_
                refine wq_callV (d' := 2) (pc := 64) (as := [vI (-1000001)]) (rest := []) (lo' := [iR 0, iI ((-1000001)), none]) dD_sheet_64 mO_D_finding lV_D_70 sh_0 (by decide) cl_10 rfl rfl rfl rfl rfl rfl ?_
                refine sp_D_finding (k := 1) (by decide) (by decide) (by decide) hS ?_
                show Wq 3 0 0 mD_sheet 67 [iR 0, iI x1, iI x2, iI x3] [vI (-1000001)] (sI M 69 1 (wr (gI M 69 1 + 1))) _
                refine wq_ireturn (pc := 67) dD_sheet_67 trivial ?_
                exact H
          · have H := H.2 c17
            refine wq_iload_n (pc := 40) dD_sheet_40 rfl rfl ?_
            refine wq_if_ge (pc := 41) (tgt := 51) dD_sheet_41 (by decide) (fun c20 => ?_) (fun c20 => ?_)
            · have H := H.1 c20
              refine wq_iload_n (pc := 51) dD_sheet_51 rfl rfl ?_
              refine wq_if_eq (pc := 52) (tgt := 68) dD_sheet_52 (by decide) (fun c21 => ?_) (fun c21 => ?_)
              · have H := H.1 c21
                refine wq_aload_n (pc := 68) dD_sheet_68 rfl rfl ?_
                refine wq_getR (pc := 69) (z := 5) (b := 68) dD_sheet_69 fO_D_42 sh_0 rfl rfl (rf_0_5 hS) ?_
                refine wq_iload_n (pc := 72) dD_sheet_72 rfl rfl ?_
                exact H
              · have H := H.2 c21
                refine wq_iload_n (pc := 55) dD_sheet_55 rfl rfl ?_
                refine wq_bipush (pc := 56) dD_sheet_56 rfl ?_
                refine wq_icmp_le (pc := 58) (tgt := 68) dD_sheet_58 (by decide) (fun c22 => ?_) (fun c22 => ?_)
                · have H := H.1 c22
                  refine wq_aload_n (pc := 68) dD_sheet_68 rfl rfl ?_
                  refine wq_getR (pc := 69) (z := 5) (b := 68) dD_sheet_69 fO_D_42 sh_0 rfl rfl (rf_0_5 hS) ?_
                  refine wq_iload_n (pc := 72) dD_sheet_72 rfl rfl ?_
                  exact H
                · have H := H.2 c22
                  refine wq_aload_n (pc := 61) dD_sheet_61 rfl rfl ?_
                  refine wq_ldc (pc := 62) (z := (-1000001)) dD_sheet_62 kO_D_69 (by decide) ?_
                  refine wq_callV (d' := 2) (pc := 64) (as := [vI (-1000001)]) (rest := []) (lo' := [iR 0, iI ((-1000001)), none]) dD_sheet_64 mO_D_finding lV_D_70 sh_0 (by decide) cl_10 rfl rfl rfl rfl rfl rfl ?_
                  refine sp_D_finding (k := 1) (by decide) (by decide) (by decide) hS ?_
                  show Wq 3 0 0 mD_sheet 67 [iR 0, iI x1, iI x2, iI x3] [vI (-1000001)] (sI M 69 1 (wr (gI M 69 1 + 1))) _
                  refine wq_ireturn (pc := 67) dD_sheet_67 trivial ?_
                  exact H
            · have H := H.2 c20
              refine wq_aload_n (pc := 44) dD_sheet_44 rfl rfl ?_
              refine wq_ldc (pc := 45) (z := (-1000003)) dD_sheet_45 kO_D_111 (by decide) ?_
              refine wq_callV (d' := 2) (pc := 47) (as := [vI (-1000003)]) (rest := []) (lo' := [iR 0, iI ((-1000003)), none]) dD_sheet_47 mO_D_finding lV_D_70 sh_0 (by decide) cl_10 rfl rfl rfl rfl rfl rfl ?_
              refine sp_D_finding (k := 3) (by decide) (by decide) (by decide) hS ?_
              show Wq 3 0 0 mD_sheet 50 [iR 0, iI x1, iI x2, iI x3] [vI (-1000003)] (sI M 69 3 (wr (gI M 69 3 + 1))) _
              refine wq_ireturn (pc := 50) dD_sheet_50 trivial ?_
              exact H
        · have H := H.2 c16
          refine wq_iload_n (pc := 23) dD_sheet_23 rfl rfl ?_
          refine wq_bipush (pc := 24) dD_sheet_24 rfl ?_
          refine wq_icmp_eq (pc := 26) (tgt := 36) dD_sheet_26 (by decide) (fun c23 => ?_) (fun c23 => ?_)
          · have H := H.1 c23
            refine wq_iload_n (pc := 36) dD_sheet_36 rfl rfl ?_
            refine wq_if_eq (pc := 37) (tgt := 51) dD_sheet_37 (by decide) (fun c24 => ?_) (fun c24 => ?_)
            · have H := H.1 c24
              refine wq_iload_n (pc := 51) dD_sheet_51 rfl rfl ?_
              refine wq_if_eq (pc := 52) (tgt := 68) dD_sheet_52 (by decide) (fun c25 => ?_) (fun c25 => ?_)
              · have H := H.1 c25
                refine wq_aload_n (pc := 68) dD_sheet_68 rfl rfl ?_
                refine wq_getR (pc := 69) (z := 5) (b := 68) dD_sheet_69 fO_D_42 sh_0 rfl rfl (rf_0_5 hS) ?_
                refine wq_iload_n (pc := 72) dD_sheet_72 rfl rfl ?_
                exact H
              · have H := H.2 c25
                refine wq_iload_n (pc := 55) dD_sheet_55 rfl rfl ?_
                refine wq_bipush (pc := 56) dD_sheet_56 rfl ?_
                refine wq_icmp_le (pc := 58) (tgt := 68) dD_sheet_58 (by decide) (fun c26 => ?_) (fun c26 => ?_)
                · have H := H.1 c26
                  refine wq_aload_n (pc := 68) dD_sheet_68 rfl rfl ?_
                  refine wq_getR (pc := 69) (z := 5) (b := 68) dD_sheet_69 fO_D_42 sh_0 rfl rfl (rf_0_5 hS) ?_
                  refine wq_iload_n (pc := 72) dD_sheet_72 rfl rfl ?_
                  exact H
                · have H := H.2 c26
                  refine wq_aload_n (pc := 61) dD_sheet_61 rfl rfl ?_
                  refine wq_ldc (pc := 62) (z := (-1000001)) dD_sheet_62 kO_D_69 (by decide) ?_
                  refine wq_callV (d' := 2) (pc := 64) (as := [vI (-1000001)]) (rest := []) (lo' := [iR 0, iI ((-1000001)), none]) dD_sheet_64 mO_D_finding lV_D_70 sh_0 (by decide) cl_10 rfl rfl rfl rfl rfl rfl ?_
                  refine sp_D_finding (k := 1) (by decide) (by decide) (by decide) hS ?_
                  show Wq 3 0 0 mD_sheet 67 [iR 0, iI x1, iI x2, iI x3] [vI (-1000001)] (sI M 69 1 (wr (gI M 69 1 + 1))) _
                  refine wq_ireturn (pc := 67) dD_sheet_67 trivial ?_
                  exact H
            · have H := H.2 c24
              refine wq_iload_n (pc := 40) dD_sheet_40 rfl rfl ?_
              refine wq_if_ge (pc := 41) (tgt := 51) dD_sheet_41 (by decide) (fun c27 => ?_) (fun c27 => ?_)
              · have H := H.1 c27
                refine wq_iload_n (pc := 51) dD_sheet_51 rfl rfl ?_
                refine wq_if_eq (pc := 52) (tgt := 68) dD_sheet_52 (by decide) (fun c28 => ?_) (fun c28 => ?_)
                · have H := H.1 c28
                  refine wq_aload_n (pc := 68) dD_sheet_68 rfl rfl ?_
                  refine wq_getR (pc := 69) (z := 5) (b := 68) dD_sheet_69 fO_D_42 sh_0 rfl rfl (rf_0_5 hS) ?_
                  refine wq_iload_n (pc := 72) dD_sheet_72 rfl rfl ?_
                  exact H
                · have H := H.2 c28
                  refine wq_iload_n (pc := 55) dD_sheet_55 rfl rfl ?_
                  refine wq_bipush (pc := 56) dD_sheet_56 rfl ?_
                  refine wq_icmp_le (pc := 58) (tgt := 68) dD_sheet_58 (by decide) (fun c29 => ?_) (fun c29 => ?_)
                  · have H := H.1 c29
                    refine wq_aload_n (pc := 68) dD_sheet_68 rfl rfl ?_
                    refine wq_getR (pc := 69) (z := 5) (b := 68) dD_sheet_69 fO_D_42 sh_0 rfl rfl (rf_0_5 hS) ?_
                    refine wq_iload_n (pc := 72) dD_sheet_72 rfl rfl ?_
                    exact H
                  · have H := H.2 c29
                    refine wq_aload_n (pc := 61) dD_sheet_61 rfl rfl ?_
                    refine wq_ldc (pc := 62) (z := (-1000001)) dD_sheet_62 kO_D_69 (by decide) ?_
                    refine wq_callV (d' := 2) (pc := 64) (as := [vI (-1000001)]) (rest := []) (lo' := [iR 0, iI ((-1000001)), none]) dD_sheet_64 mO_D_finding lV_D_70 sh_0 (by decide) cl_10 rfl rfl rfl rfl rfl rfl ?_
                    refine sp_D_finding (k := 1) (by decide) (by decide) (by decide) hS ?_
                    show Wq 3 0 0 mD_sheet 67 [iR 0, iI x1, iI x2, iI x3] [vI (-1000001)] (sI M 69 1 (wr (gI M 69 1 + 1))) _
                    refine wq_ireturn (pc := 67) dD_sheet_67 trivial ?_
                    exact H
              · have H := H.2 c27
                refine wq_aload_n (pc := 44) dD_sheet_44 rfl rfl ?_
                refine wq_ldc (pc := 45) (z := (-1000003)) dD_sheet_45 kO_D_111 (by decide) ?_
                refine wq_callV (d' := 2) (pc := 47) (as := [vI (-1000003)]) (rest := []) (lo' := [iR 0, iI ((-1000003)), none]) dD_sheet_47 mO_D_finding lV_D_70 sh_0 (by decide) cl_10 rfl rfl rfl rfl rfl rfl ?_
                refine sp_D_finding (k := 3) (by decide) (by decide) (by decide) hS ?_
                show Wq 3 0 0 mD_sheet 50 [iR 0, iI x1, iI x2, iI x3] [vI (-1000003)] (sI M 69 3 (wr (gI M 69 3 + 1))) _
                refine wq_ireturn (pc := 50) dD_sheet_50 trivial ?_
                exact H
          · have H := H.2 c23
            refine wq_aload_n (pc := 29) dD_sheet_29 rfl rfl ?_
            refine wq_ldc (pc := 30) (z := (-1000001)) dD_sheet_30 kO_D_69 (by decide) ?_
            refine wq_callV (d' := 2) (pc := 32) (as := [vI (-1000001)]) (rest := []) (lo' := [iR 0, iI ((-1000001)), none]) dD_sheet_32 mO_D_finding lV_D_70 sh_0 (by decide) cl_10 rfl rfl rfl rfl rfl rfl ?_
            refine sp_D_finding (k := 1) (by decide) (by decide) (by decide) hS ?_
            show Wq 3 0 0 mD_sheet 35 [iR 0, iI x1, iI x2, iI x3] [vI (-1000001)] (sI M 69 1 (wr (gI M 69 1 + 1))) _
            refine wq_ireturn (pc := 35) dD_sheet_35 trivial ?_
            exact H
  · have H := H.2 c1
    show Wq 3 0 0 mD_sheet 4 [iR 0, iI x1, iI x2, iI x3] [vI 0] M _
    refine wq_if_eq (pc := 4) (tgt := 29) dD_sheet_4 (by decide) (fun _ => ?_) (fun q => absurd (by decide) q)
    refine wq_aload_n (pc := 29) dD_sheet_29 rfl rfl ?_
    refine wq_ldc (pc := 30) (z := (-1000001)) dD_sheet_30 kO_D_69 (by decide) ?_
    refine wq_callV (d' := 2) (pc := 32) (as := [vI (-1000001)]) (rest := []) (lo' := [iR 0, iI ((-1000001)), none]) dD_sheet_32 mO_D_finding lV_D_70 sh_0 (by decide) cl_10 rfl rfl rfl rfl rfl rfl ?_
    refine sp_D_finding (k := 1) (by decide) (by decide) (by decide) hS ?_
    show Wq 3 0 0 mD_sheet 35 [iR 0, iI x1, iI x2, iI x3] [vI (-1000001)] (sI M 69 1 (wr (gI M 69 1 + 1))) _
    refine wq_ireturn (pc := 35) dD_sheet_35 trivial ?_
    exact H
set_option maxRecDepth 20000 in
theorem B_D_put_0 {x1 x2 x3 : Int} {M : Mm} {Q : Mm → Option Mv → Prop} (hS : RefOK M) (H : ((0 ≤ x1 ∧ x1 ≤ 3 → Wq 3 0 0 mD_put 19 [iR 0, iI x1, iI x2, iI x3, none] [vI x1, vR 68] M Q) ∧ (¬ (0 ≤ x1 ∧ x1 ≤ 3) → Q (sI M 69 1 (wr (gI M 69 1 + 1))) (some (vI (-1000001)))))) : Wq 3 0 0 mD_put 0 [iR 0, iI x1, iI x2, iI x3, none] [] M Q := by
  refine wq_iload_n (pc := 0) dD_put_0 rfl rfl ?_
  refine wq_callS (d' := 2) (pc := 1) (as := [vI x1]) (rest := []) (lo' := [iI x1]) dD_put_1 mO_D_isSheet lS_D_284 rfl rfl rfl rfl rfl rfl ?_
  refine sp_D_isSheet (fun c1 => ?_) (fun c1 => ?_)
  · have H := H.1 c1
    show Wq 3 0 0 mD_put 4 [iR 0, iI x1, iI x2, iI x3, none] [vI 1] M _
    refine wq_if_ne (pc := 4) (tgt := 14) dD_put_4 (by decide) (fun _ => ?_) (fun q => absurd q (by decide))
    refine wq_aload_n (pc := 14) dD_put_14 rfl rfl ?_
    refine wq_getR (pc := 15) (z := 5) (b := 68) dD_put_15 fO_D_42 sh_0 rfl rfl (rf_0_5 hS) ?_
    refine wq_iload_n (pc := 18) dD_put_18 rfl rfl ?_
    exact H
  · have H := H.2 c1
    show Wq 3 0 0 mD_put 4 [iR 0, iI x1, iI x2, iI x3, none] [vI 0] M _
    refine wq_if_ne (pc := 4) (tgt := 14) dD_put_4 (by decide) (fun q => absurd q (by decide)) (fun _ => ?_)
    refine wq_aload_n (pc := 7) dD_put_7 rfl rfl ?_
    refine wq_ldc (pc := 8) (z := (-1000001)) dD_put_8 kO_D_69 (by decide) ?_
    refine wq_callV (d' := 2) (pc := 10) (as := [vI (-1000001)]) (rest := []) (lo' := [iR 0, iI ((-1000001)), none]) dD_put_10 mO_D_finding lV_D_70 sh_0 (by decide) cl_10 rfl rfl rfl rfl rfl rfl ?_
    refine sp_D_finding (k := 1) (by decide) (by decide) (by decide) hS ?_
    show Wq 3 0 0 mD_put 13 [iR 0, iI x1, iI x2, iI x3, none] [vI (-1000001)] (sI M 69 1 (wr (gI M 69 1 + 1))) _
    refine wq_ireturn (pc := 13) dD_put_13 trivial ?_
    exact H
set_option maxRecDepth 20000 in
theorem B_D_move_0 {x1 x2 x3 x4 x5 : Int} {M : Mm} {Q : Mm → Option Mv → Prop} (hS : RefOK M) (H : ((0 ≤ x1 ∧ x1 ≤ 3 → ((0 ≤ x3 ∧ x3 ≤ 3 → Wq 3 0 0 mD_move 26 [iR 0, iI x1, iI x2, iI x3, iI x4, iI x5, none, none] [vI x1, vR 68] M Q) ∧ (¬ (0 ≤ x3 ∧ x3 ≤ 3) → Q (sI M 69 1 (wr (gI M 69 1 + 1))) (some (vI (-1000001)))))) ∧ (¬ (0 ≤ x1 ∧ x1 ≤ 3) → Q (sI M 69 1 (wr (gI M 69 1 + 1))) (some (vI (-1000001)))))) : Wq 3 0 0 mD_move 0 [iR 0, iI x1, iI x2, iI x3, iI x4, iI x5, none, none] [] M Q := by
  refine wq_iload_n (pc := 0) dD_move_0 rfl rfl ?_
  refine wq_callS (d' := 2) (pc := 1) (as := [vI x1]) (rest := []) (lo' := [iI x1]) dD_move_1 mO_D_isSheet lS_D_284 rfl rfl rfl rfl rfl rfl ?_
  refine sp_D_isSheet (fun c1 => ?_) (fun c1 => ?_)
  · have H := H.1 c1
    show Wq 3 0 0 mD_move 4 [iR 0, iI x1, iI x2, iI x3, iI x4, iI x5, none, none] [vI 1] M _
    refine wq_if_eq (pc := 4) (tgt := 14) dD_move_4 (by decide) (fun q => absurd q (by decide)) (fun _ => ?_)
    refine wq_iload_n (pc := 7) dD_move_7 rfl rfl ?_
    refine wq_callS (d' := 2) (pc := 8) (as := [vI x3]) (rest := []) (lo' := [iI x3]) dD_move_8 mO_D_isSheet lS_D_284 rfl rfl rfl rfl rfl rfl ?_
    refine sp_D_isSheet (fun c2 => ?_) (fun c2 => ?_)
    · have H := H.1 c2
      show Wq 3 0 0 mD_move 11 [iR 0, iI x1, iI x2, iI x3, iI x4, iI x5, none, none] [vI 1] M _
      refine wq_if_ne (pc := 11) (tgt := 21) dD_move_11 (by decide) (fun _ => ?_) (fun q => absurd q (by decide))
      refine wq_aload_n (pc := 21) dD_move_21 rfl rfl ?_
      refine wq_getR (pc := 22) (z := 5) (b := 68) dD_move_22 fO_D_42 sh_0 rfl rfl (rf_0_5 hS) ?_
      refine wq_iload_n (pc := 25) dD_move_25 rfl rfl ?_
      exact H
    · have H := H.2 c2
      show Wq 3 0 0 mD_move 11 [iR 0, iI x1, iI x2, iI x3, iI x4, iI x5, none, none] [vI 0] M _
      refine wq_if_ne (pc := 11) (tgt := 21) dD_move_11 (by decide) (fun q => absurd q (by decide)) (fun _ => ?_)
      refine wq_aload_n (pc := 14) dD_move_14 rfl rfl ?_
      refine wq_ldc (pc := 15) (z := (-1000001)) dD_move_15 kO_D_69 (by decide) ?_
      refine wq_callV (d' := 2) (pc := 17) (as := [vI (-1000001)]) (rest := []) (lo' := [iR 0, iI ((-1000001)), none]) dD_move_17 mO_D_finding lV_D_70 sh_0 (by decide) cl_10 rfl rfl rfl rfl rfl rfl ?_
      refine sp_D_finding (k := 1) (by decide) (by decide) (by decide) hS ?_
      show Wq 3 0 0 mD_move 20 [iR 0, iI x1, iI x2, iI x3, iI x4, iI x5, none, none] [vI (-1000001)] (sI M 69 1 (wr (gI M 69 1 + 1))) _
      refine wq_ireturn (pc := 20) dD_move_20 trivial ?_
      exact H
  · have H := H.2 c1
    show Wq 3 0 0 mD_move 4 [iR 0, iI x1, iI x2, iI x3, iI x4, iI x5, none, none] [vI 0] M _
    refine wq_if_eq (pc := 4) (tgt := 14) dD_move_4 (by decide) (fun _ => ?_) (fun q => absurd (by decide) q)
    refine wq_aload_n (pc := 14) dD_move_14 rfl rfl ?_
    refine wq_ldc (pc := 15) (z := (-1000001)) dD_move_15 kO_D_69 (by decide) ?_
    refine wq_callV (d' := 2) (pc := 17) (as := [vI (-1000001)]) (rest := []) (lo' := [iR 0, iI ((-1000001)), none]) dD_move_17 mO_D_finding lV_D_70 sh_0 (by decide) cl_10 rfl rfl rfl rfl rfl rfl ?_
    refine sp_D_finding (k := 1) (by decide) (by decide) (by decide) hS ?_
    show Wq 3 0 0 mD_move 20 [iR 0, iI x1, iI x2, iI x3, iI x4, iI x5, none, none] [vI (-1000001)] (sI M 69 1 (wr (gI M 69 1 + 1))) _
    refine wq_ireturn (pc := 20) dD_move_20 trivial ?_
    exact H
set_option maxRecDepth 20000 in
theorem B_D_sheet_s0_0 {x2 x3 : Int} {M : Mm} {Q : Mm → Option Mv → Prop} (hS : RefOK M) (H : ((0 ≤ (0 : Int) ∧ (0 : Int) ≤ 3 → ((x2 = 0 → ((x2 = 0 → ((x2 = 0 → ((¬ x2 = 0 → Wq 1 0 0 mS_renew 0 [iR 72, iI x2, iI x3, none] [] M (fun M' v => Wq 3 0 0 mD_sheet 87 [iR 0, iI 0, iI x2, iI x3] (v.toList ++ []) M' Q)) ∧ (x2 = 0 → Wq 1 0 0 mS_renew 0 [iR 72, iI x2, iI 0, none] [] M (fun M' v => Wq 3 0 0 mD_sheet 87 [iR 0, iI 0, iI x2, iI x3] (v.toList ++ []) M' Q)))) ∧ (¬ x2 = 0 → ((x3 ≤ 24 → ((¬ x2 = 0 → Wq 1 0 0 mS_renew 0 [iR 72, iI x2, iI x3, none] [] M (fun M' v => Wq 3 0 0 mD_sheet 87 [iR 0, iI 0, iI x2, iI x3] (v.toList ++ []) M' Q)) ∧ (x2 = 0 → Wq 1 0 0 mS_renew 0 [iR 72, iI x2, iI 0, none] [] M (fun M' v => Wq 3 0 0 mD_sheet 87 [iR 0, iI 0, iI x2, iI x3] (v.toList ++ []) M' Q)))) ∧ (¬ x3 ≤ 24 → Q (sI M 69 1 (wr (gI M 69 1 + 1))) (some (vI (-1000001)))))))) ∧ (¬ x2 = 0 → ((0 ≤ x3 → ((x2 = 0 → ((¬ x2 = 0 → Wq 1 0 0 mS_renew 0 [iR 72, iI x2, iI x3, none] [] M (fun M' v => Wq 3 0 0 mD_sheet 87 [iR 0, iI 0, iI x2, iI x3] (v.toList ++ []) M' Q)) ∧ (x2 = 0 → Wq 1 0 0 mS_renew 0 [iR 72, iI x2, iI 0, none] [] M (fun M' v => Wq 3 0 0 mD_sheet 87 [iR 0, iI 0, iI x2, iI x3] (v.toList ++ []) M' Q)))) ∧ (¬ x2 = 0 → ((x3 ≤ 24 → ((¬ x2 = 0 → Wq 1 0 0 mS_renew 0 [iR 72, iI x2, iI x3, none] [] M (fun M' v => Wq 3 0 0 mD_sheet 87 [iR 0, iI 0, iI x2, iI x3] (v.toList ++ []) M' Q)) ∧ (x2 = 0 → Wq 1 0 0 mS_renew 0 [iR 72, iI x2, iI 0, none] [] M (fun M' v => Wq 3 0 0 mD_sheet 87 [iR 0, iI 0, iI x2, iI x3] (v.toList ++ []) M' Q)))) ∧ (¬ x3 ≤ 24 → Q (sI M 69 1 (wr (gI M 69 1 + 1))) (some (vI (-1000001)))))))) ∧ (¬ 0 ≤ x3 → Q (sI M 69 3 (wr (gI M 69 3 + 1))) (some (vI (-1000003)))))))) ∧ (¬ x2 = 0 → ((x2 = 8 → ((x2 = 0 → ((x2 = 0 → ((¬ x2 = 0 → Wq 1 0 0 mS_renew 0 [iR 72, iI x2, iI x3, none] [] M (fun M' v => Wq 3 0 0 mD_sheet 87 [iR 0, iI 0, iI x2, iI x3] (v.toList ++ []) M' Q)) ∧ (x2 = 0 → Wq 1 0 0 mS_renew 0 [iR 72, iI x2, iI 0, none] [] M (fun M' v => Wq 3 0 0 mD_sheet 87 [iR 0, iI 0, iI x2, iI x3] (v.toList ++ []) M' Q)))) ∧ (¬ x2 = 0 → ((x3 ≤ 24 → ((¬ x2 = 0 → Wq 1 0 0 mS_renew 0 [iR 72, iI x2, iI x3, none] [] M (fun M' v => Wq 3 0 0 mD_sheet 87 [iR 0, iI 0, iI x2, iI x3] (v.toList ++ []) M' Q)) ∧ (x2 = 0 → Wq 1 0 0 mS_renew 0 [iR 72, iI x2, iI 0, none] [] M (fun M' v => Wq 3 0 0 mD_sheet 87 [iR 0, iI 0, iI x2, iI x3] (v.toList ++ []) M' Q)))) ∧ (¬ x3 ≤ 24 → Q (sI M 69 1 (wr (gI M 69 1 + 1))) (some (vI (-1000001)))))))) ∧ (¬ x2 = 0 → ((0 ≤ x3 → ((x2 = 0 → ((¬ x2 = 0 → Wq 1 0 0 mS_renew 0 [iR 72, iI x2, iI x3, none] [] M (fun M' v => Wq 3 0 0 mD_sheet 87 [iR 0, iI 0, iI x2, iI x3] (v.toList ++ []) M' Q)) ∧ (x2 = 0 → Wq 1 0 0 mS_renew 0 [iR 72, iI x2, iI 0, none] [] M (fun M' v => Wq 3 0 0 mD_sheet 87 [iR 0, iI 0, iI x2, iI x3] (v.toList ++ []) M' Q)))) ∧ (¬ x2 = 0 → ((x3 ≤ 24 → ((¬ x2 = 0 → Wq 1 0 0 mS_renew 0 [iR 72, iI x2, iI x3, none] [] M (fun M' v => Wq 3 0 0 mD_sheet 87 [iR 0, iI 0, iI x2, iI x3] (v.toList ++ []) M' Q)) ∧ (x2 = 0 → Wq 1 0 0 mS_renew 0 [iR 72, iI x2, iI 0, none] [] M (fun M' v => Wq 3 0 0 mD_sheet 87 [iR 0, iI 0, iI x2, iI x3] (v.toList ++ []) M' Q)))) ∧ (¬ x3 ≤ 24 → Q (sI M 69 1 (wr (gI M 69 1 + 1))) (some (vI (-1000001)))))))) ∧ (¬ 0 ≤ x3 → Q (sI M 69 3 (wr (gI M 69 3 + 1))) (some (vI (-1000003)))))))) ∧ (¬ x2 = 8 → ((x2 = 16 → ((x2 = 0 → ((x2 = 0 → ((¬ x2 = 0 → Wq 1 0 0 mS_renew 0 [iR 72, iI x2, iI x3, none] [] M (fun M' v => Wq 3 0 0 mD_sheet 87 [iR 0, iI 0, iI x2, iI x3] (v.toList ++ []) M' Q)) ∧ (x2 = 0 → Wq 1 0 0 mS_renew 0 [iR 72, iI x2, iI 0, none] [] M (fun M' v => Wq 3 0 0 mD_sheet 87 [iR 0, iI 0, iI x2, iI x3] (v.toList ++ []) M' Q)))) ∧ (¬ x2 = 0 → ((x3 ≤ 24 → ((¬ x2 = 0 → Wq 1 0 0 mS_renew 0 [iR 72, iI x2, iI x3, none] [] M (fun M' v => Wq 3 0 0 mD_sheet 87 [iR 0, iI 0, iI x2, iI x3] (v.toList ++ []) M' Q)) ∧ (x2 = 0 → Wq 1 0 0 mS_renew 0 [iR 72, iI x2, iI 0, none] [] M (fun M' v => Wq 3 0 0 mD_sheet 87 [iR 0, iI 0, iI x2, iI x3] (v.toList ++ []) M' Q)))) ∧ (¬ x3 ≤ 24 → Q (sI M 69 1 (wr (gI M 69 1 + 1))) (some (vI (-1000001)))))))) ∧ (¬ x2 = 0 → ((0 ≤ x3 → ((x2 = 0 → ((¬ x2 = 0 → Wq 1 0 0 mS_renew 0 [iR 72, iI x2, iI x3, none] [] M (fun M' v => Wq 3 0 0 mD_sheet 87 [iR 0, iI 0, iI x2, iI x3] (v.toList ++ []) M' Q)) ∧ (x2 = 0 → Wq 1 0 0 mS_renew 0 [iR 72, iI x2, iI 0, none] [] M (fun M' v => Wq 3 0 0 mD_sheet 87 [iR 0, iI 0, iI x2, iI x3] (v.toList ++ []) M' Q)))) ∧ (¬ x2 = 0 → ((x3 ≤ 24 → ((¬ x2 = 0 → Wq 1 0 0 mS_renew 0 [iR 72, iI x2, iI x3, none] [] M (fun M' v => Wq 3 0 0 mD_sheet 87 [iR 0, iI 0, iI x2, iI x3] (v.toList ++ []) M' Q)) ∧ (x2 = 0 → Wq 1 0 0 mS_renew 0 [iR 72, iI x2, iI 0, none] [] M (fun M' v => Wq 3 0 0 mD_sheet 87 [iR 0, iI 0, iI x2, iI x3] (v.toList ++ []) M' Q)))) ∧ (¬ x3 ≤ 24 → Q (sI M 69 1 (wr (gI M 69 1 + 1))) (some (vI (-1000001)))))))) ∧ (¬ 0 ≤ x3 → Q (sI M 69 3 (wr (gI M 69 3 + 1))) (some (vI (-1000003)))))))) ∧ (¬ x2 = 16 → ((x2 = 32 → ((x2 = 0 → ((x2 = 0 → ((¬ x2 = 0 → Wq 1 0 0 mS_renew 0 [iR 72, iI x2, iI x3, none] [] M (fun M' v => Wq 3 0 0 mD_sheet 87 [iR 0, iI 0, iI x2, iI x3] (v.toList ++ []) M' Q)) ∧ (x2 = 0 → Wq 1 0 0 mS_renew 0 [iR 72, iI x2, iI 0, none] [] M (fun M' v => Wq 3 0 0 mD_sheet 87 [iR 0, iI 0, iI x2, iI x3] (v.toList ++ []) M' Q)))) ∧ (¬ x2 = 0 → ((x3 ≤ 24 → ((¬ x2 = 0 → Wq 1 0 0 mS_renew 0 [iR 72, iI x2, iI x3, none] [] M (fun M' v => Wq 3 0 0 mD_sheet 87 [iR 0, iI 0, iI x2, iI x3] (v.toList ++ []) M' Q)) ∧ (x2 = 0 → Wq 1 0 0 mS_renew 0 [iR 72, iI x2, iI 0, none] [] M (fun M' v => Wq 3 0 0 mD_sheet 87 [iR 0, iI 0, iI x2, iI x3] (v.toList ++ []) M' Q)))) ∧ (¬ x3 ≤ 24 → Q (sI M 69 1 (wr (gI M 69 1 + 1))) (some (vI (-1000001)))))))) ∧ (¬ x2 = 0 → ((0 ≤ x3 → ((x2 = 0 → ((¬ x2 = 0 → Wq 1 0 0 mS_renew 0 [iR 72, iI x2, iI x3, none] [] M (fun M' v => Wq 3 0 0 mD_sheet 87 [iR 0, iI 0, iI x2, iI x3] (v.toList ++ []) M' Q)) ∧ (x2 = 0 → Wq 1 0 0 mS_renew 0 [iR 72, iI x2, iI 0, none] [] M (fun M' v => Wq 3 0 0 mD_sheet 87 [iR 0, iI 0, iI x2, iI x3] (v.toList ++ []) M' Q)))) ∧ (¬ x2 = 0 → ((x3 ≤ 24 → ((¬ x2 = 0 → Wq 1 0 0 mS_renew 0 [iR 72, iI x2, iI x3, none] [] M (fun M' v => Wq 3 0 0 mD_sheet 87 [iR 0, iI 0, iI x2, iI x3] (v.toList ++ []) M' Q)) ∧ (x2 = 0 → Wq 1 0 0 mS_renew 0 [iR 72, iI x2, iI 0, none] [] M (fun M' v => Wq 3 0 0 mD_sheet 87 [iR 0, iI 0, iI x2, iI x3] (v.toList ++ []) M' Q)))) ∧ (¬ x3 ≤ 24 → Q (sI M 69 1 (wr (gI M 69 1 + 1))) (some (vI (-1000001)))))))) ∧ (¬ 0 ≤ x3 → Q (sI M 69 3 (wr (gI M 69 3 + 1))) (some (vI (-1000003)))))))) ∧ (¬ x2 = 32 → Q (sI M 69 1 (wr (gI M 69 1 + 1))) (some (vI (-1000001)))))))))))) ∧ (¬ (0 ≤ (0 : Int) ∧ (0 : Int) ≤ 3) → Q (sI M 69 1 (wr (gI M 69 1 + 1))) (some (vI (-1000001)))))) : Wq 3 0 0 mD_sheet 0 [iR 0, iI 0, iI x2, iI x3] [] M Q := by
  refine wq_iload_n (pc := 0) dD_sheet_0 rfl rfl ?_
  refine wq_callS (d' := 2) (pc := 1) (as := [vI 0]) (rest := []) (lo' := [iI 0]) dD_sheet_1 mO_D_isSheet lS_D_284 rfl rfl rfl rfl rfl rfl ?_
  refine sp_D_isSheet (fun c1 => ?_) (fun c1 => ?_)
  · have H := H.1 c1
    show Wq 3 0 0 mD_sheet 4 [iR 0, iI 0, iI x2, iI x3] [vI 1] M _
    refine wq_if_eq (pc := 4) (tgt := 29) dD_sheet_4 (by decide) (fun q => absurd q (by decide)) (fun _ => ?_)
    refine wq_iload_n (pc := 7) dD_sheet_7 rfl rfl ?_
    refine wq_if_eq (pc := 8) (tgt := 36) dD_sheet_8 (by decide) (fun c2 => ?_) (fun c2 => ?_)
    · have H := H.1 c2
      refine wq_iload_n (pc := 36) dD_sheet_36 rfl rfl ?_
      refine wq_if_eq (pc := 37) (tgt := 51) dD_sheet_37 (by decide) (fun c3 => ?_) (fun c3 => ?_)
      · have H := H.1 c3
        refine wq_iload_n (pc := 51) dD_sheet_51 rfl rfl ?_
        refine wq_if_eq (pc := 52) (tgt := 68) dD_sheet_52 (by decide) (fun c4 => ?_) (fun c4 => ?_)
        · have H := H.1 c4
          refine wq_aload_n (pc := 68) dD_sheet_68 rfl rfl ?_
          refine wq_getR (pc := 69) (z := 5) (b := 68) dD_sheet_69 fO_D_42 sh_0 rfl rfl (rf_0_5 hS) ?_
          refine wq_iload_n (pc := 72) dD_sheet_72 rfl rfl ?_
          refine wq_aald (pc := 73) (b := 72) dD_sheet_73 sh_68 (by decide) (by decide) (rf_68_0 hS) ?_
          refine wq_iload_n (pc := 74) dD_sheet_74 rfl rfl ?_
          refine wq_iload_n (pc := 75) dD_sheet_75 rfl rfl ?_
          refine wq_if_ne (pc := 76) (tgt := 83) dD_sheet_76 (by decide) (fun c5 => ?_) (fun c5 => ?_)
          · have H := H.1 c5
            refine wq_iload_n (pc := 83) dD_sheet_83 rfl rfl ?_
            refine wq_callV (d' := 1) (pc := 84) (as := [vI x2, vI x3]) (rest := []) (lo' := [iR 72, iI x2, iI x3, none]) dD_sheet_84 mO_S_renew lV_D_316 sh_72 (by decide) cl_6 rfl rfl rfl rfl rfl rfl ?_
            exact H
          · have H := H.2 c5
            refine wq_iconst (pc := 79) dD_sheet_79 rfl ?_
            refine wq_goto (pc := 80) (tgt := 84) dD_sheet_80 (by decide) ?_
            refine wq_callV (d' := 1) (pc := 84) (as := [vI x2, vI 0]) (rest := []) (lo' := [iR 72, iI x2, iI 0, none]) dD_sheet_84 mO_S_renew lV_D_316 sh_72 (by decide) cl_6 rfl rfl rfl rfl rfl rfl ?_
            exact H
        · have H := H.2 c4
          refine wq_iload_n (pc := 55) dD_sheet_55 rfl rfl ?_
          refine wq_bipush (pc := 56) dD_sheet_56 rfl ?_
          refine wq_icmp_le (pc := 58) (tgt := 68) dD_sheet_58 (by decide) (fun c6 => ?_) (fun c6 => ?_)
          · have H := H.1 c6
            refine wq_aload_n (pc := 68) dD_sheet_68 rfl rfl ?_
            refine wq_getR (pc := 69) (z := 5) (b := 68) dD_sheet_69 fO_D_42 sh_0 rfl rfl (rf_0_5 hS) ?_
            refine wq_iload_n (pc := 72) dD_sheet_72 rfl rfl ?_
            refine wq_aald (pc := 73) (b := 72) dD_sheet_73 sh_68 (by decide) (by decide) (rf_68_0 hS) ?_
            refine wq_iload_n (pc := 74) dD_sheet_74 rfl rfl ?_
            refine wq_iload_n (pc := 75) dD_sheet_75 rfl rfl ?_
            refine wq_if_ne (pc := 76) (tgt := 83) dD_sheet_76 (by decide) (fun c7 => ?_) (fun c7 => ?_)
            · have H := H.1 c7
              refine wq_iload_n (pc := 83) dD_sheet_83 rfl rfl ?_
              refine wq_callV (d' := 1) (pc := 84) (as := [vI x2, vI x3]) (rest := []) (lo' := [iR 72, iI x2, iI x3, none]) dD_sheet_84 mO_S_renew lV_D_316 sh_72 (by decide) cl_6 rfl rfl rfl rfl rfl rfl ?_
              exact H
            · have H := H.2 c7
              refine wq_iconst (pc := 79) dD_sheet_79 rfl ?_
              refine wq_goto (pc := 80) (tgt := 84) dD_sheet_80 (by decide) ?_
              refine wq_callV (d' := 1) (pc := 84) (as := [vI x2, vI 0]) (rest := []) (lo' := [iR 72, iI x2, iI 0, none]) dD_sheet_84 mO_S_renew lV_D_316 sh_72 (by decide) cl_6 rfl rfl rfl rfl rfl rfl ?_
              exact H
          · have H := H.2 c6
            refine wq_aload_n (pc := 61) dD_sheet_61 rfl rfl ?_
            refine wq_ldc (pc := 62) (z := (-1000001)) dD_sheet_62 kO_D_69 (by decide) ?_
            refine wq_callV (d' := 2) (pc := 64) (as := [vI (-1000001)]) (rest := []) (lo' := [iR 0, iI ((-1000001)), none]) dD_sheet_64 mO_D_finding lV_D_70 sh_0 (by decide) cl_10 rfl rfl rfl rfl rfl rfl ?_
            refine sp_D_finding (k := 1) (by decide) (by decide) (by decide) hS ?_
            show Wq 3 0 0 mD_sheet 67 [iR 0, iI 0, iI x2, iI x3] [vI (-1000001)] (sI M 69 1 (wr (gI M 69 1 + 1))) _
            refine wq_ireturn (pc := 67) dD_sheet_67 trivial ?_
            exact H
      · have H := H.2 c3
        refine wq_iload_n (pc := 40) dD_sheet_40 rfl rfl ?_
        refine wq_if_ge (pc := 41) (tgt := 51) dD_sheet_41 (by decide) (fun c8 => ?_) (fun c8 => ?_)
        · have H := H.1 c8
          refine wq_iload_n (pc := 51) dD_sheet_51 rfl rfl ?_
          refine wq_if_eq (pc := 52) (tgt := 68) dD_sheet_52 (by decide) (fun c9 => ?_) (fun c9 => ?_)
          · have H := H.1 c9
            refine wq_aload_n (pc := 68) dD_sheet_68 rfl rfl ?_
            refine wq_getR (pc := 69) (z := 5) (b := 68) dD_sheet_69 fO_D_42 sh_0 rfl rfl (rf_0_5 hS) ?_
            refine wq_iload_n (pc := 72) dD_sheet_72 rfl rfl ?_
            refine wq_aald (pc := 73) (b := 72) dD_sheet_73 sh_68 (by decide) (by decide) (rf_68_0 hS) ?_
            refine wq_iload_n (pc := 74) dD_sheet_74 rfl rfl ?_
            refine wq_iload_n (pc := 75) dD_sheet_75 rfl rfl ?_
            refine wq_if_ne (pc := 76) (tgt := 83) dD_sheet_76 (by decide) (fun c10 => ?_) (fun c10 => ?_)
            · have H := H.1 c10
              refine wq_iload_n (pc := 83) dD_sheet_83 rfl rfl ?_
              refine wq_callV (d' := 1) (pc := 84) (as := [vI x2, vI x3]) (rest := []) (lo' := [iR 72, iI x2, iI x3, none]) dD_sheet_84 mO_S_renew lV_D_316 sh_72 (by decide) cl_6 rfl rfl rfl rfl rfl rfl ?_
              exact H
            · have H := H.2 c10
              refine wq_iconst (pc := 79) dD_sheet_79 rfl ?_
              refine wq_goto (pc := 80) (tgt := 84) dD_sheet_80 (by decide) ?_
              refine wq_callV (d' := 1) (pc := 84) (as := [vI x2, vI 0]) (rest := []) (lo' := [iR 72, iI x2, iI 0, none]) dD_sheet_84 mO_S_renew lV_D_316 sh_72 (by decide) cl_6 rfl rfl rfl rfl rfl rfl ?_
              exact H
          · have H := H.2 c9
            refine wq_iload_n (pc := 55) dD_sheet_55 rfl rfl ?_
            refine wq_bipush (pc := 56) dD_sheet_56 rfl ?_
            refine wq_icmp_le (pc := 58) (tgt := 68) dD_sheet_58 (by decide) (fun c11 => ?_) (fun c11 => ?_)
            · have H := H.1 c11
              refine wq_aload_n (pc := 68) dD_sheet_68 rfl rfl ?_
              refine wq_getR (pc := 69) (z := 5) (b := 68) dD_sheet_69 fO_D_42 sh_0 rfl rfl (rf_0_5 hS) ?_
              refine wq_iload_n (pc := 72) dD_sheet_72 rfl rfl ?_
              refine wq_aald (pc := 73) (b := 72) dD_sheet_73 sh_68 (by decide) (by decide) (rf_68_0 hS) ?_
              refine wq_iload_n (pc := 74) dD_sheet_74 rfl rfl ?_
              refine wq_iload_n (pc := 75) dD_sheet_75 rfl rfl ?_
              refine wq_if_ne (pc := 76) (tgt := 83) dD_sheet_76 (by decide) (fun c12 => ?_) (fun c12 => ?_)
              · have H := H.1 c12
                refine wq_iload_n (pc := 83) dD_sheet_83 rfl rfl ?_
                refine wq_callV (d' := 1) (pc := 84) (as := [vI x2, vI x3]) (rest := []) (lo' := [iR 72, iI x2, iI x3, none]) dD_sheet_84 mO_S_renew lV_D_316 sh_72 (by decide) cl_6 rfl rfl rfl rfl rfl rfl ?_
                exact H
              · have H := H.2 c12
                refine wq_iconst (pc := 79) dD_sheet_79 rfl ?_
                refine wq_goto (pc := 80) (tgt := 84) dD_sheet_80 (by decide) ?_
                refine wq_callV (d' := 1) (pc := 84) (as := [vI x2, vI 0]) (rest := []) (lo' := [iR 72, iI x2, iI 0, none]) dD_sheet_84 mO_S_renew lV_D_316 sh_72 (by decide) cl_6 rfl rfl rfl rfl rfl rfl ?_
                exact H
            · have H := H.2 c11
              refine wq_aload_n (pc := 61) dD_sheet_61 rfl rfl ?_
              refine wq_ldc (pc := 62) (z := (-1000001)) dD_sheet_62 kO_D_69 (by decide) ?_
              refine wq_callV (d' := 2) (pc := 64) (as := [vI (-1000001)]) (rest := []) (lo' := [iR 0, iI ((-1000001)), none]) dD_sheet_64 mO_D_finding lV_D_70 sh_0 (by decide) cl_10 rfl rfl rfl rfl rfl rfl ?_
              refine sp_D_finding (k := 1) (by decide) (by decide) (by decide) hS ?_
              show Wq 3 0 0 mD_sheet 67 [iR 0, iI 0, iI x2, iI x3] [vI (-1000001)] (sI M 69 1 (wr (gI M 69 1 + 1))) _
              refine wq_ireturn (pc := 67) dD_sheet_67 trivial ?_
              exact H
        · have H := H.2 c8
          refine wq_aload_n (pc := 44) dD_sheet_44 rfl rfl ?_
          refine wq_ldc (pc := 45) (z := (-1000003)) dD_sheet_45 kO_D_111 (by decide) ?_
          refine wq_callV (d' := 2) (pc := 47) (as := [vI (-1000003)]) (rest := []) (lo' := [iR 0, iI ((-1000003)), none]) dD_sheet_47 mO_D_finding lV_D_70 sh_0 (by decide) cl_10 rfl rfl rfl rfl rfl rfl ?_
          refine sp_D_finding (k := 3) (by decide) (by decide) (by decide) hS ?_
          show Wq 3 0 0 mD_sheet 50 [iR 0, iI 0, iI x2, iI x3] [vI (-1000003)] (sI M 69 3 (wr (gI M 69 3 + 1))) _
          refine wq_ireturn (pc := 50) dD_sheet_50 trivial ?_
          exact H
    · have H := H.2 c2
      refine wq_iload_n (pc := 11) dD_sheet_11 rfl rfl ?_
      refine wq_bipush (pc := 12) dD_sheet_12 rfl ?_
      refine wq_icmp_eq (pc := 14) (tgt := 36) dD_sheet_14 (by decide) (fun c13 => ?_) (fun c13 => ?_)
      · have H := H.1 c13
        refine wq_iload_n (pc := 36) dD_sheet_36 rfl rfl ?_
        refine wq_if_eq (pc := 37) (tgt := 51) dD_sheet_37 (by decide) (fun c14 => ?_) (fun c14 => ?_)
        · have H := H.1 c14
          refine wq_iload_n (pc := 51) dD_sheet_51 rfl rfl ?_
          refine wq_if_eq (pc := 52) (tgt := 68) dD_sheet_52 (by decide) (fun c15 => ?_) (fun c15 => ?_)
          · have H := H.1 c15
            refine wq_aload_n (pc := 68) dD_sheet_68 rfl rfl ?_
            refine wq_getR (pc := 69) (z := 5) (b := 68) dD_sheet_69 fO_D_42 sh_0 rfl rfl (rf_0_5 hS) ?_
            refine wq_iload_n (pc := 72) dD_sheet_72 rfl rfl ?_
            refine wq_aald (pc := 73) (b := 72) dD_sheet_73 sh_68 (by decide) (by decide) (rf_68_0 hS) ?_
            refine wq_iload_n (pc := 74) dD_sheet_74 rfl rfl ?_
            refine wq_iload_n (pc := 75) dD_sheet_75 rfl rfl ?_
            refine wq_if_ne (pc := 76) (tgt := 83) dD_sheet_76 (by decide) (fun c16 => ?_) (fun c16 => ?_)
            · have H := H.1 c16
              refine wq_iload_n (pc := 83) dD_sheet_83 rfl rfl ?_
              refine wq_callV (d' := 1) (pc := 84) (as := [vI x2, vI x3]) (rest := []) (lo' := [iR 72, iI x2, iI x3, none]) dD_sheet_84 mO_S_renew lV_D_316 sh_72 (by decide) cl_6 rfl rfl rfl rfl rfl rfl ?_
              exact H
            · have H := H.2 c16
              refine wq_iconst (pc := 79) dD_sheet_79 rfl ?_
              refine wq_goto (pc := 80) (tgt := 84) dD_sheet_80 (by decide) ?_
              refine wq_callV (d' := 1) (pc := 84) (as := [vI x2, vI 0]) (rest := []) (lo' := [iR 72, iI x2, iI 0, none]) dD_sheet_84 mO_S_renew lV_D_316 sh_72 (by decide) cl_6 rfl rfl rfl rfl rfl rfl ?_
              exact H
          · have H := H.2 c15
            refine wq_iload_n (pc := 55) dD_sheet_55 rfl rfl ?_
            refine wq_bipush (pc := 56) dD_sheet_56 rfl ?_
            refine wq_icmp_le (pc := 58) (tgt := 68) dD_sheet_58 (by decide) (fun c17 => ?_) (fun c17 => ?_)
            · have H := H.1 c17
              refine wq_aload_n (pc := 68) dD_sheet_68 rfl rfl ?_
              refine wq_getR (pc := 69) (z := 5) (b := 68) dD_sheet_69 fO_D_42 sh_0 rfl rfl (rf_0_5 hS) ?_
              refine wq_iload_n (pc := 72) dD_sheet_72 rfl rfl ?_
              refine wq_aald (pc := 73) (b := 72) dD_sheet_73 sh_68 (by decide) (by decide) (rf_68_0 hS) ?_
              refine wq_iload_n (pc := 74) dD_sheet_74 rfl rfl ?_
              refine wq_iload_n (pc := 75) dD_sheet_75 rfl rfl ?_
              refine wq_if_ne (pc := 76) (tgt := 83) dD_sheet_76 (by decide) (fun c18 => ?_) (fun c18 => ?_)
              · have H := H.1 c18
                refine wq_iload_n (pc := 83) dD_sheet_83 rfl rfl ?_
                refine wq_callV (d' := 1) (pc := 84) (as := [vI x2, vI x3]) (rest := []) (lo' := [iR 72, iI x2, iI x3, none]) dD_sheet_84 mO_S_renew lV_D_316 sh_72 (by decide) cl_6 rfl rfl rfl rfl rfl rfl ?_
                exact H
              · have H := H.2 c18
                refine wq_iconst (pc := 79) dD_sheet_79 rfl ?_
                refine wq_goto (pc := 80) (tgt := 84) dD_sheet_80 (by decide) ?_
                refine wq_callV (d' := 1) (pc := 84) (as := [vI x2, vI 0]) (rest := []) (lo' := [iR 72, iI x2, iI 0, none]) dD_sheet_84 mO_S_renew lV_D_316 sh_72 (by decide) cl_6 rfl rfl rfl rfl rfl rfl ?_
                exact H
            · have H := H.2 c17
              refine wq_aload_n (pc := 61) dD_sheet_61 rfl rfl ?_
              refine wq_ldc (pc := 62) (z := (-1000001)) dD_sheet_62 kO_D_69 (by decide) ?_
              refine wq_callV (d' := 2) (pc := 64) (as := [vI (-1000001)]) (rest := []) (lo' := [iR 0, iI ((-1000001)), none]) dD_sheet_64 mO_D_finding lV_D_70 sh_0 (by decide) cl_10 rfl rfl rfl rfl rfl rfl ?_
              refine sp_D_finding (k := 1) (by decide) (by decide) (by decide) hS ?_
              show Wq 3 0 0 mD_sheet 67 [iR 0, iI 0, iI x2, iI x3] [vI (-1000001)] (sI M 69 1 (wr (gI M 69 1 + 1))) _
              refine wq_ireturn (pc := 67) dD_sheet_67 trivial ?_
              exact H
        · have H := H.2 c14
          refine wq_iload_n (pc := 40) dD_sheet_40 rfl rfl ?_
          refine wq_if_ge (pc := 41) (tgt := 51) dD_sheet_41 (by decide) (fun c19 => ?_) (fun c19 => ?_)
          · have H := H.1 c19
            refine wq_iload_n (pc := 51) dD_sheet_51 rfl rfl ?_
            refine wq_if_eq (pc := 52) (tgt := 68) dD_sheet_52 (by decide) (fun c20 => ?_) (fun c20 => ?_)
            · have H := H.1 c20
              refine wq_aload_n (pc := 68) dD_sheet_68 rfl rfl ?_
              refine wq_getR (pc := 69) (z := 5) (b := 68) dD_sheet_69 fO_D_42 sh_0 rfl rfl (rf_0_5 hS) ?_
              refine wq_iload_n (pc := 72) dD_sheet_72 rfl rfl ?_
              refine wq_aald (pc := 73) (b := 72) dD_sheet_73 sh_68 (by decide) (by decide) (rf_68_0 hS) ?_
              refine wq_iload_n (pc := 74) dD_sheet_74 rfl rfl ?_
              refine wq_iload_n (pc := 75) dD_sheet_75 rfl rfl ?_
              refine wq_if_ne (pc := 76) (tgt := 83) dD_sheet_76 (by decide) (fun c21 => ?_) (fun c21 => ?_)
              · have H := H.1 c21
                refine wq_iload_n (pc := 83) dD_sheet_83 rfl rfl ?_
                refine wq_callV (d' := 1) (pc := 84) (as := [vI x2, vI x3]) (rest := []) (lo' := [iR 72, iI x2, iI x3, none]) dD_sheet_84 mO_S_renew lV_D_316 sh_72 (by decide) cl_6 rfl rfl rfl rfl rfl rfl ?_
                exact H
              · have H := H.2 c21
                refine wq_iconst (pc := 79) dD_sheet_79 rfl ?_
                refine wq_goto (pc := 80) (tgt := 84) dD_sheet_80 (by decide) ?_
                refine wq_callV (d' := 1) (pc := 84) (as := [vI x2, vI 0]) (rest := []) (lo' := [iR 72, iI x2, iI 0, none]) dD_sheet_84 mO_S_renew lV_D_316 sh_72 (by decide) cl_6 rfl rfl rfl rfl rfl rfl ?_
                exact H
            · have H := H.2 c20
              refine wq_iload_n (pc := 55) dD_sheet_55 rfl rfl ?_
              refine wq_bipush (pc := 56) dD_sheet_56 rfl ?_
              refine wq_icmp_le (pc := 58) (tgt := 68) dD_sheet_58 (by decide) (fun c22 => ?_) (fun c22 => ?_)
              · have H := H.1 c22
                refine wq_aload_n (pc := 68) dD_sheet_68 rfl rfl ?_
                refine wq_getR (pc := 69) (z := 5) (b := 68) dD_sheet_69 fO_D_42 sh_0 rfl rfl (rf_0_5 hS) ?_
                refine wq_iload_n (pc := 72) dD_sheet_72 rfl rfl ?_
                refine wq_aald (pc := 73) (b := 72) dD_sheet_73 sh_68 (by decide) (by decide) (rf_68_0 hS) ?_
                refine wq_iload_n (pc := 74) dD_sheet_74 rfl rfl ?_
                refine wq_iload_n (pc := 75) dD_sheet_75 rfl rfl ?_
                refine wq_if_ne (pc := 76) (tgt := 83) dD_sheet_76 (by decide) (fun c23 => ?_) (fun c23 => ?_)
                · have H := H.1 c23
                  refine wq_iload_n (pc := 83) dD_sheet_83 rfl rfl ?_
                  refine wq_callV (d' := 1) (pc := 84) (as := [vI x2, vI x3]) (rest := []) (lo' := [iR 72, iI x2, iI x3, none]) dD_sheet_84 mO_S_renew lV_D_316 sh_72 (by decide) cl_6 rfl rfl rfl rfl rfl rfl ?_
                  exact H
                · have H := H.2 c23
                  refine wq_iconst (pc := 79) dD_sheet_79 rfl ?_
                  refine wq_goto (pc := 80) (tgt := 84) dD_sheet_80 (by decide) ?_
                  refine wq_callV (d' := 1) (pc := 84) (as := [vI x2, vI 0]) (rest := []) (lo' := [iR 72, iI x2, iI 0, none]) dD_sheet_84 mO_S_renew lV_D_316 sh_72 (by decide) cl_6 rfl rfl rfl rfl rfl rfl ?_
                  exact H
              · have H := H.2 c22
                refine wq_aload_n (pc := 61) dD_sheet_61 rfl rfl ?_
                refine wq_ldc (pc := 62) (z := (-1000001)) dD_sheet_62 kO_D_69 (by decide) ?_
                refine wq_callV (d' := 2) (pc := 64) (as := [vI (-1000001)]) (rest := []) (lo' := [iR 0, iI ((-1000001)), none]) dD_sheet_64 mO_D_finding lV_D_70 sh_0 (by decide) cl_10 rfl rfl rfl rfl rfl rfl ?_
                refine sp_D_finding (k := 1) (by decide) (by decide) (by decide) hS ?_
                show Wq 3 0 0 mD_sheet 67 [iR 0, iI 0, iI x2, iI x3] [vI (-1000001)] (sI M 69 1 (wr (gI M 69 1 + 1))) _
                refine wq_ireturn (pc := 67) dD_sheet_67 trivial ?_
                exact H
          · have H := H.2 c19
            refine wq_aload_n (pc := 44) dD_sheet_44 rfl rfl ?_
            refine wq_ldc (pc := 45) (z := (-1000003)) dD_sheet_45 kO_D_111 (by decide) ?_
            refine wq_callV (d' := 2) (pc := 47) (as := [vI (-1000003)]) (rest := []) (lo' := [iR 0, iI ((-1000003)), none]) dD_sheet_47 mO_D_finding lV_D_70 sh_0 (by decide) cl_10 rfl rfl rfl rfl rfl rfl ?_
            refine sp_D_finding (k := 3) (by decide) (by decide) (by decide) hS ?_
            show Wq 3 0 0 mD_sheet 50 [iR 0, iI 0, iI x2, iI x3] [vI (-1000003)] (sI M 69 3 (wr (gI M 69 3 + 1))) _
            refine wq_ireturn (pc := 50) dD_sheet_50 trivial ?_
            exact H
      · have H := H.2 c13
        refine wq_iload_n (pc := 17) dD_sheet_17 rfl rfl ?_
        refine wq_bipush (pc := 18) dD_sheet_18 rfl ?_
        refine wq_icmp_eq (pc := 20) (tgt := 36) dD_sheet_20 (by decide) (fun c24 => ?_) (fun c24 => ?_)
        · have H := H.1 c24
          refine wq_iload_n (pc := 36) dD_sheet_36 rfl rfl ?_
          refine wq_if_eq (pc := 37) (tgt := 51) dD_sheet_37 (by decide) (fun c25 => ?_) (fun c25 => ?_)
          · have H := H.1 c25
            refine wq_iload_n (pc := 51) dD_sheet_51 rfl rfl ?_
            refine wq_if_eq (pc := 52) (tgt := 68) dD_sheet_52 (by decide) (fun c26 => ?_) (fun c26 => ?_)
            · have H := H.1 c26
              refine wq_aload_n (pc := 68) dD_sheet_68 rfl rfl ?_
              refine wq_getR (pc := 69) (z := 5) (b := 68) dD_sheet_69 fO_D_42 sh_0 rfl rfl (rf_0_5 hS) ?_
              refine wq_iload_n (pc := 72) dD_sheet_72 rfl rfl ?_
              refine wq_aald (pc := 73) (b := 72) dD_sheet_73 sh_68 (by decide) (by decide) (rf_68_0 hS) ?_
              refine wq_iload_n (pc := 74) dD_sheet_74 rfl rfl ?_
              refine wq_iload_n (pc := 75) dD_sheet_75 rfl rfl ?_
              refine wq_if_ne (pc := 76) (tgt := 83) dD_sheet_76 (by decide) (fun c27 => ?_) (fun c27 => ?_)
              · have H := H.1 c27
                refine wq_iload_n (pc := 83) dD_sheet_83 rfl rfl ?_
                refine wq_callV (d' := 1) (pc := 84) (as := [vI x2, vI x3]) (rest := []) (lo' := [iR 72, iI x2, iI x3, none]) dD_sheet_84 mO_S_renew lV_D_316 sh_72 (by decide) cl_6 rfl rfl rfl rfl rfl rfl ?_
                exact H
              · have H := H.2 c27
                refine wq_iconst (pc := 79) dD_sheet_79 rfl ?_
                refine wq_goto (pc := 80) (tgt := 84) dD_sheet_80 (by decide) ?_
                refine wq_callV (d' := 1) (pc := 84) (as := [vI x2, vI 0]) (rest := []) (lo' := [iR 72, iI x2, iI 0, none]) dD_sheet_84 mO_S_renew lV_D_316 sh_72 (by decide) cl_6 rfl rfl rfl rfl rfl rfl ?_
                exact H
            · have H := H.2 c26
              refine wq_iload_n (pc := 55) dD_sheet_55 rfl rfl ?_
              refine wq_bipush (pc := 56) dD_sheet_56 rfl ?_
              refine wq_icmp_le (pc := 58) (tgt := 68) dD_sheet_58 (by decide) (fun c28 => ?_) (fun c28 => ?_)
              · have H := H.1 c28
                refine wq_aload_n (pc := 68) dD_sheet_68 rfl rfl ?_
                refine wq_getR (pc := 69) (z := 5) (b := 68) dD_sheet_69 fO_D_42 sh_0 rfl rfl (rf_0_5 hS) ?_
                refine wq_iload_n (pc := 72) dD_sheet_72 rfl rfl ?_
                refine wq_aald (pc := 73) (b := 72) dD_sheet_73 sh_68 (by decide) (by decide) (rf_68_0 hS) ?_
                refine wq_iload_n (pc := 74) dD_sheet_74 rfl rfl ?_
                refine wq_iload_n (pc := 75) dD_sheet_75 rfl rfl ?_
                refine wq_if_ne (pc := 76) (tgt := 83) dD_sheet_76 (by decide) (fun c29 => ?_) (fun c29 => ?_)
                · have H := H.1 c29
                  refine wq_iload_n (pc := 83) dD_sheet_83 rfl rfl ?_
                  refine wq_callV (d' := 1) (pc := 84) (as := [vI x2, vI x3]) (rest := []) (lo' := [iR 72, iI x2, iI x3, none]) dD_sheet_84 mO_S_renew lV_D_316 sh_72 (by decide) cl_6 rfl rfl rfl rfl rfl rfl ?_
                  exact H
                · have H := H.2 c29
                  refine wq_iconst (pc := 79) dD_sheet_79 rfl ?_
                  refine wq_goto (pc := 80) (tgt := 84) dD_sheet_80 (by decide) ?_
                  refine wq_callV (d' := 1) (pc := 84) (as := [vI x2, vI 0]) (rest := []) (lo' := [iR 72, iI x2, iI 0, none]) dD_sheet_84 mO_S_renew lV_D_316 sh_72 (by decide) cl_6 rfl rfl rfl rfl rfl rfl ?_
                  exact H
              · have H := H.2 c28
                refine wq_aload_n (pc := 61) dD_sheet_61 rfl rfl ?_
                refine wq_ldc (pc := 62) (z := (-1000001)) dD_sheet_62 kO_D_69 (by decide) ?_
                refine wq_callV (d' := 2) (pc := 64) (as := [vI (-1000001)]) (rest := []) (lo' := [iR 0, iI ((-1000001)), none]) dD_sheet_64 mO_D_finding lV_D_70 sh_0 (by decide) cl_10 rfl rfl rfl rfl rfl rfl ?_
                refine sp_D_finding (k := 1) (by decide) (by decide) (by decide) hS ?_
                show Wq 3 0 0 mD_sheet 67 [iR 0, iI 0, iI x2, iI x3] [vI (-1000001)] (sI M 69 1 (wr (gI M 69 1 + 1))) _
                refine wq_ireturn (pc := 67) dD_sheet_67 trivial ?_
                exact H
          · have H := H.2 c25
            refine wq_iload_n (pc := 40) dD_sheet_40 rfl rfl ?_
            refine wq_if_ge (pc := 41) (tgt := 51) dD_sheet_41 (by decide) (fun c30 => ?_) (fun c30 => ?_)
            · have H := H.1 c30
              refine wq_iload_n (pc := 51) dD_sheet_51 rfl rfl ?_
              refine wq_if_eq (pc := 52) (tgt := 68) dD_sheet_52 (by decide) (fun c31 => ?_) (fun c31 => ?_)
              · have H := H.1 c31
                refine wq_aload_n (pc := 68) dD_sheet_68 rfl rfl ?_
                refine wq_getR (pc := 69) (z := 5) (b := 68) dD_sheet_69 fO_D_42 sh_0 rfl rfl (rf_0_5 hS) ?_
                refine wq_iload_n (pc := 72) dD_sheet_72 rfl rfl ?_
                refine wq_aald (pc := 73) (b := 72) dD_sheet_73 sh_68 (by decide) (by decide) (rf_68_0 hS) ?_
                refine wq_iload_n (pc := 74) dD_sheet_74 rfl rfl ?_
                refine wq_iload_n (pc := 75) dD_sheet_75 rfl rfl ?_
                refine wq_if_ne (pc := 76) (tgt := 83) dD_sheet_76 (by decide) (fun c32 => ?_) (fun c32 => ?_)
                · have H := H.1 c32
                  refine wq_iload_n (pc := 83) dD_sheet_83 rfl rfl ?_
                  refine wq_callV (d' := 1) (pc := 84) (as := [vI x2, vI x3]) (rest := []) (lo' := [iR 72, iI x2, iI x3, none]) dD_sheet_84 mO_S_renew lV_D_316 sh_72 (by decide) cl_6 rfl rfl rfl rfl rfl rfl ?_
                  exact H
                · have H := H.2 c32
                  refine wq_iconst (pc := 79) dD_sheet_79 rfl ?_
                  refine wq_goto (pc := 80) (tgt := 84) dD_sheet_80 (by decide) ?_
                  refine wq_callV (d' := 1) (pc := 84) (as := [vI x2, vI 0]) (rest := []) (lo' := [iR 72, iI x2, iI 0, none]) dD_sheet_84 mO_S_renew lV_D_316 sh_72 (by decide) cl_6 rfl rfl rfl rfl rfl rfl ?_
                  exact H
              · have H := H.2 c31
                refine wq_iload_n (pc := 55) dD_sheet_55 rfl rfl ?_
                refine wq_bipush (pc := 56) dD_sheet_56 rfl ?_
                refine wq_icmp_le (pc := 58) (tgt := 68) dD_sheet_58 (by decide) (fun c33 => ?_) (fun c33 => ?_)
                · have H := H.1 c33
                  refine wq_aload_n (pc := 68) dD_sheet_68 rfl rfl ?_
                  refine wq_getR (pc := 69) (z := 5) (b := 68) dD_sheet_69 fO_D_42 sh_0 rfl rfl (rf_0_5 hS) ?_
                  refine wq_iload_n (pc := 72) dD_sheet_72 rfl rfl ?_
                  refine wq_aald (pc := 73) (b := 72) dD_sheet_73 sh_68 (by decide) (by decide) (rf_68_0 hS) ?_
                  refine wq_iload_n (pc := 74) dD_sheet_74 rfl rfl ?_
                  refine wq_iload_n (pc := 75) dD_sheet_75 rfl rfl ?_
                  refine wq_if_ne (pc := 76) (tgt := 83) dD_sheet_76 (by decide) (fun c34 => ?_) (fun c34 => ?_)
                  · have H := H.1 c34
                    refine wq_iload_n (pc := 83) dD_sheet_83 rfl rfl ?_
                    refine wq_callV (d' := 1) (pc := 84) (as := [vI x2, vI x3]) (rest := []) (lo' := [iR 72, iI x2, iI x3, none]) dD_sheet_84 mO_S_renew lV_D_316 sh_72 (by decide) cl_6 rfl rfl rfl rfl rfl rfl ?_
                    exact H
                  · have H := H.2 c34
                    refine wq_iconst (pc := 79) dD_sheet_79 rfl ?_
                    refine wq_goto (pc := 80) (tgt := 84) dD_sheet_80 (by decide) ?_
                    refine wq_callV (d' := 1) (pc := 84) (as := [vI x2, vI 0]) (rest := []) (lo' := [iR 72, iI x2, iI 0, none]) dD_sheet_84 mO_S_renew lV_D_316 sh_72 (by decide) cl_6 rfl rfl rfl rfl rfl rfl ?_
                    exact H
                · have H := H.2 c33
                  refine wq_aload_n (pc := 61) dD_sheet_61 rfl rfl ?_
                  refine wq_ldc (pc := 62) (z := (-1000001)) dD_sheet_62 kO_D_69 (by decide) ?_
                  refine wq_callV (d' := 2) (pc := 64) (as := [vI (-1000001)]) (rest := []) (lo' := [iR 0, iI ((-1000001)), none]) dD_sheet_64 mO_D_finding lV_D_70 sh_0 (by decide) cl_10 rfl rfl rfl rfl rfl rfl ?_
                  refine sp_D_finding (k := 1) (by decide) (by decide) (by decide) hS ?_
                  show Wq 3 0 0 mD_sheet 67 [iR 0, iI 0, iI x2, iI x3] [vI (-1000001)] (sI M 69 1 (wr (gI M 69 1 + 1))) _
                  refine wq_ireturn (pc := 67) dD_sheet_67 trivial ?_
                  exact H
            · have H := H.2 c30
              refine wq_aload_n (pc := 44) dD_sheet_44 rfl rfl ?_
              refine wq_ldc (pc := 45) (z := (-1000003)) dD_sheet_45 kO_D_111 (by decide) ?_
              refine wq_callV (d' := 2) (pc := 47) (as := [vI (-1000003)]) (rest := []) (lo' := [iR 0, iI ((-1000003)), none]) dD_sheet_47 mO_D_finding lV_D_70 sh_0 (by decide) cl_10 rfl rfl rfl rfl rfl rfl ?_
              refine sp_D_finding (k := 3) (by decide) (by decide) (by decide) hS ?_
              show Wq 3 0 0 mD_sheet 50 [iR 0, iI 0, iI x2, iI x3] [vI (-1000003)] (sI M 69 3 (wr (gI M 69 3 + 1))) _
              refine wq_ireturn (pc := 50) dD_sheet_50 trivial ?_
              exact H
        · have H := H.2 c24
          refine wq_iload_n (pc := 23) dD_sheet_23 rfl rfl ?_
          refine wq_bipush (pc := 24) dD_sheet_24 rfl ?_
          refine wq_icmp_eq (pc := 26) (tgt := 36) dD_sheet_26 (by decide) (fun c35 => ?_) (fun c35 => ?_)
          · have H := H.1 c35
            refine wq_iload_n (pc := 36) dD_sheet_36 rfl rfl ?_
            refine wq_if_eq (pc := 37) (tgt := 51) dD_sheet_37 (by decide) (fun c36 => ?_) (fun c36 => ?_)
            · have H := H.1 c36
              refine wq_iload_n (pc := 51) dD_sheet_51 rfl rfl ?_
              refine wq_if_eq (pc := 52) (tgt := 68) dD_sheet_52 (by decide) (fun c37 => ?_) (fun c37 => ?_)
              · have H := H.1 c37
                refine wq_aload_n (pc := 68) dD_sheet_68 rfl rfl ?_
                refine wq_getR (pc := 69) (z := 5) (b := 68) dD_sheet_69 fO_D_42 sh_0 rfl rfl (rf_0_5 hS) ?_
                refine wq_iload_n (pc := 72) dD_sheet_72 rfl rfl ?_
                refine wq_aald (pc := 73) (b := 72) dD_sheet_73 sh_68 (by decide) (by decide) (rf_68_0 hS) ?_
                refine wq_iload_n (pc := 74) dD_sheet_74 rfl rfl ?_
                refine wq_iload_n (pc := 75) dD_sheet_75 rfl rfl ?_
                refine wq_if_ne (pc := 76) (tgt := 83) dD_sheet_76 (by decide) (fun c38 => ?_) (fun c38 => ?_)
                · have H := H.1 c38
                  refine wq_iload_n (pc := 83) dD_sheet_83 rfl rfl ?_
                  refine wq_callV (d' := 1) (pc := 84) (as := [vI x2, vI x3]) (rest := []) (lo' := [iR 72, iI x2, iI x3, none]) dD_sheet_84 mO_S_renew lV_D_316 sh_72 (by decide) cl_6 rfl rfl rfl rfl rfl rfl ?_
                  exact H
                · have H := H.2 c38
                  refine wq_iconst (pc := 79) dD_sheet_79 rfl ?_
                  refine wq_goto (pc := 80) (tgt := 84) dD_sheet_80 (by decide) ?_
                  refine wq_callV (d' := 1) (pc := 84) (as := [vI x2, vI 0]) (rest := []) (lo' := [iR 72, iI x2, iI 0, none]) dD_sheet_84 mO_S_renew lV_D_316 sh_72 (by decide) cl_6 rfl rfl rfl rfl rfl rfl ?_
                  exact H
              · have H := H.2 c37
                refine wq_iload_n (pc := 55) dD_sheet_55 rfl rfl ?_
                refine wq_bipush (pc := 56) dD_sheet_56 rfl ?_
                refine wq_icmp_le (pc := 58) (tgt := 68) dD_sheet_58 (by decide) (fun c39 => ?_) (fun c39 => ?_)
                · have H := H.1 c39
                  refine wq_aload_n (pc := 68) dD_sheet_68 rfl rfl ?_
                  refine wq_getR (pc := 69) (z := 5) (b := 68) dD_sheet_69 fO_D_42 sh_0 rfl rfl (rf_0_5 hS) ?_
                  refine wq_iload_n (pc := 72) dD_sheet_72 rfl rfl ?_
                  refine wq_aald (pc := 73) (b := 72) dD_sheet_73 sh_68 (by decide) (by decide) (rf_68_0 hS) ?_
                  refine wq_iload_n (pc := 74) dD_sheet_74 rfl rfl ?_
                  refine wq_iload_n (pc := 75) dD_sheet_75 rfl rfl ?_
                  refine wq_if_ne (pc := 76) (tgt := 83) dD_sheet_76 (by decide) (fun c40 => ?_) (fun c40 => ?_)
                  · have H := H.1 c40
                    refine wq_iload_n (pc := 83) dD_sheet_83 rfl rfl ?_
                    refine wq_callV (d' := 1) (pc := 84) (as := [vI x2, vI x3]) (rest := []) (lo' := [iR 72, iI x2, iI x3, none]) dD_sheet_84 mO_S_renew lV_D_316 sh_72 (by decide) cl_6 rfl rfl rfl rfl rfl rfl ?_
                    exact H
                  · have H := H.2 c40
                    refine wq_iconst (pc := 79) dD_sheet_79 rfl ?_
                    refine wq_goto (pc := 80) (tgt := 84) dD_sheet_80 (by decide) ?_
                    refine wq_callV (d' := 1) (pc := 84) (as := [vI x2, vI 0]) (rest := []) (lo' := [iR 72, iI x2, iI 0, none]) dD_sheet_84 mO_S_renew lV_D_316 sh_72 (by decide) cl_6 rfl rfl rfl rfl rfl rfl ?_
                    exact H
                · have H := H.2 c39
                  refine wq_aload_n (pc := 61) dD_sheet_61 rfl rfl ?_
                  refine wq_ldc (pc := 62) (z := (-1000001)) dD_sheet_62 kO_D_69 (by decide) ?_
                  refine wq_callV (d' := 2) (pc := 64) (as := [vI (-1000001)]) (rest := []) (lo' := [iR 0, iI ((-1000001)), none]) dD_sheet_64 mO_D_finding lV_D_70 sh_0 (by decide) cl_10 rfl rfl rfl rfl rfl rfl ?_
                  refine sp_D_finding (k := 1) (by decide) (by decide) (by decide) hS ?_
                  show Wq 3 0 0 mD_sheet 67 [iR 0, iI 0, iI x2, iI x3] [vI (-1000001)] (sI M 69 1 (wr (gI M 69 1 + 1))) _
                  refine wq_ireturn (pc := 67) dD_sheet_67 trivial ?_
                  exact H
            · have H := H.2 c36
              refine wq_iload_n (pc := 40) dD_sheet_40 rfl rfl ?_
              refine wq_if_ge (pc := 41) (tgt := 51) dD_sheet_41 (by decide) (fun c41 => ?_) (fun c41 => ?_)
              · have H := H.1 c41
                refine wq_iload_n (pc := 51) dD_sheet_51 rfl rfl ?_
                refine wq_if_eq (pc := 52) (tgt := 68) dD_sheet_52 (by decide) (fun c42 => ?_) (fun c42 => ?_)
                · have H := H.1 c42
                  refine wq_aload_n (pc := 68) dD_sheet_68 rfl rfl ?_
                  refine wq_getR (pc := 69) (z := 5) (b := 68) dD_sheet_69 fO_D_42 sh_0 rfl rfl (rf_0_5 hS) ?_
                  refine wq_iload_n (pc := 72) dD_sheet_72 rfl rfl ?_
                  refine wq_aald (pc := 73) (b := 72) dD_sheet_73 sh_68 (by decide) (by decide) (rf_68_0 hS) ?_
                  refine wq_iload_n (pc := 74) dD_sheet_74 rfl rfl ?_
                  refine wq_iload_n (pc := 75) dD_sheet_75 rfl rfl ?_
                  refine wq_if_ne (pc := 76) (tgt := 83) dD_sheet_76 (by decide) (fun c43 => ?_) (fun c43 => ?_)
                  · have H := H.1 c43
                    refine wq_iload_n (pc := 83) dD_sheet_83 rfl rfl ?_
                    refine wq_callV (d' := 1) (pc := 84) (as := [vI x2, vI x3]) (rest := []) (lo' := [iR 72, iI x2, iI x3, none]) dD_sheet_84 mO_S_renew lV_D_316 sh_72 (by decide) cl_6 rfl rfl rfl rfl rfl rfl ?_
                    exact H
                  · have H := H.2 c43
                    refine wq_iconst (pc := 79) dD_sheet_79 rfl ?_
                    refine wq_goto (pc := 80) (tgt := 84) dD_sheet_80 (by decide) ?_
                    refine wq_callV (d' := 1) (pc := 84) (as := [vI x2, vI 0]) (rest := []) (lo' := [iR 72, iI x2, iI 0, none]) dD_sheet_84 mO_S_renew lV_D_316 sh_72 (by decide) cl_6 rfl rfl rfl rfl rfl rfl ?_
                    exact H
                · have H := H.2 c42
                  refine wq_iload_n (pc := 55) dD_sheet_55 rfl rfl ?_
                  refine wq_bipush (pc := 56) dD_sheet_56 rfl ?_
                  refine wq_icmp_le (pc := 58) (tgt := 68) dD_sheet_58 (by decide) (fun c44 => ?_) (fun c44 => ?_)
                  · have H := H.1 c44
                    refine wq_aload_n (pc := 68) dD_sheet_68 rfl rfl ?_
                    refine wq_getR (pc := 69) (z := 5) (b := 68) dD_sheet_69 fO_D_42 sh_0 rfl rfl (rf_0_5 hS) ?_
                    refine wq_iload_n (pc := 72) dD_sheet_72 rfl rfl ?_
                    refine wq_aald (pc := 73) (b := 72) dD_sheet_73 sh_68 (by decide) (by decide) (rf_68_0 hS) ?_
                    refine wq_iload_n (pc := 74) dD_sheet_74 rfl rfl ?_
                    refine wq_iload_n (pc := 75) dD_sheet_75 rfl rfl ?_
                    refine wq_if_ne (pc := 76) (tgt := 83) dD_sheet_76 (by decide) (fun c45 => ?_) (fun c45 => ?_)
                    · have H := H.1 c45
                      refine wq_iload_n (pc := 83) dD_sheet_83 rfl rfl ?_
                      refine wq_callV (d' := 1) (pc := 84) (as := [vI x2, vI x3]) (rest := []) (lo' := [iR 72, iI x2, iI x3, none]) dD_sheet_84 mO_S_renew lV_D_316 sh_72 (by decide) cl_6 rfl rfl rfl rfl rfl rfl ?_
                      exact H
                    · have H := H.2 c45
                      refine wq_iconst (pc := 79) dD_sheet_79 rfl ?_
                      refine wq_goto (pc := 80) (tgt := 84) dD_sheet_80 (by decide) ?_
                      refine wq_callV (d' := 1) (pc := 84) (as := [vI x2, vI 0]) (rest := []) (lo' := [iR 72, iI x2, iI 0, none]) dD_sheet_84 mO_S_renew lV_D_316 sh_72 (by decide) cl_6 rfl rfl rfl rfl rfl rfl ?_
                      exact H
                  · have H := H.2 c44
                    refine wq_aload_n (pc := 61) dD_sheet_61 rfl rfl ?_
                    refine wq_ldc (pc := 62) (z := (-1000001)) dD_sheet_62 kO_D_69 (by decide) ?_
                    refine wq_callV (d' := 2) (pc := 64) (as := [vI (-1000001)]) (rest := []) (lo' := [iR 0, iI ((-1000001)), none]) dD_sheet_64 mO_D_finding lV_D_70 sh_0 (by decide) cl_10 rfl rfl rfl rfl rfl rfl ?_
                    refine sp_D_finding (k := 1) (by decide) (by decide) (by decide) hS ?_
                    show Wq 3 0 0 mD_sheet 67 [iR 0, iI 0, iI x2, iI x3] [vI (-1000001)] (sI M 69 1 (wr (gI M 69 1 + 1))) _
                    refine wq_ireturn (pc := 67) dD_sheet_67 trivial ?_
                    exact H
              · have H := H.2 c41
                refine wq_aload_n (pc := 44) dD_sheet_44 rfl rfl ?_
                refine wq_ldc (pc := 45) (z := (-1000003)) dD_sheet_45 kO_D_111 (by decide) ?_
                refine wq_callV (d' := 2) (pc := 47) (as := [vI (-1000003)]) (rest := []) (lo' := [iR 0, iI ((-1000003)), none]) dD_sheet_47 mO_D_finding lV_D_70 sh_0 (by decide) cl_10 rfl rfl rfl rfl rfl rfl ?_
                refine sp_D_finding (k := 3) (by decide) (by decide) (by decide) hS ?_
                show Wq 3 0 0 mD_sheet 50 [iR 0, iI 0, iI x2, iI x3] [vI (-1000003)] (sI M 69 3 (wr (gI M 69 3 + 1))) _
                refine wq_ireturn (pc := 50) dD_sheet_50 trivial ?_
                exact H
          · have H := H.2 c35
            refine wq_aload_n (pc := 29) dD_sheet_29 rfl rfl ?_
            refine wq_ldc (pc := 30) (z := (-1000001)) dD_sheet_30 kO_D_69 (by decide) ?_
            refine wq_callV (d' := 2) (pc := 32) (as := [vI (-1000001)]) (rest := []) (lo' := [iR 0, iI ((-1000001)), none]) dD_sheet_32 mO_D_finding lV_D_70 sh_0 (by decide) cl_10 rfl rfl rfl rfl rfl rfl ?_
            refine sp_D_finding (k := 1) (by decide) (by decide) (by decide) hS ?_
            show Wq 3 0 0 mD_sheet 35 [iR 0, iI 0, iI x2, iI x3] [vI (-1000001)] (sI M 69 1 (wr (gI M 69 1 + 1))) _
            refine wq_ireturn (pc := 35) dD_sheet_35 trivial ?_
            exact H
  · have H := H.2 c1
    show Wq 3 0 0 mD_sheet 4 [iR 0, iI 0, iI x2, iI x3] [vI 0] M _
    refine wq_if_eq (pc := 4) (tgt := 29) dD_sheet_4 (by decide) (fun _ => ?_) (fun q => absurd (by decide) q)
    refine wq_aload_n (pc := 29) dD_sheet_29 rfl rfl ?_
    refine wq_ldc (pc := 30) (z := (-1000001)) dD_sheet_30 kO_D_69 (by decide) ?_
    refine wq_callV (d' := 2) (pc := 32) (as := [vI (-1000001)]) (rest := []) (lo' := [iR 0, iI ((-1000001)), none]) dD_sheet_32 mO_D_finding lV_D_70 sh_0 (by decide) cl_10 rfl rfl rfl rfl rfl rfl ?_
    refine sp_D_finding (k := 1) (by decide) (by decide) (by decide) hS ?_
    show Wq 3 0 0 mD_sheet 35 [iR 0, iI 0, iI x2, iI x3] [vI (-1000001)] (sI M 69 1 (wr (gI M 69 1 + 1))) _
    refine wq_ireturn (pc := 35) dD_sheet_35 trivial ?_
    exact H

set_option maxRecDepth 20000 in
theorem B_D_sheet_s0_87 {x2 x3 : Int} {M : Mm} {Q : Mm → Option Mv → Prop} (H : Q M (some (vI 1))) : Wq 3 0 0 mD_sheet 87 [iR 0, iI 0, iI x2, iI x3] [] M Q := by
  refine wq_iconst (pc := 87) dD_sheet_87 rfl ?_
  refine wq_ireturn (pc := 88) dD_sheet_88 trivial ?_
  exact H
set_option maxRecDepth 20000 in
theorem B_D_put_s0_0 {x2 x3 : Int} {M : Mm} {Q : Mm → Option Mv → Prop} (hS : RefOK M) (H : ((0 ≤ (0 : Int) ∧ (0 : Int) ≤ 3 → ((¬ gI M 72 1 = 0 → ((-2147483648 ≤ gI M 72 2 - 1 ∧ gI M 72 2 - 1 < 2147483648) ∧ ((0 ≤ x2 ∧ x2 ≤ gI M 72 2 - 1 → Wq 1 0 0 mS_cut 0 [iR 72, iI x3] [] M (fun M' v => Wq 3 0 0 mD_put 71 [iR 0, iI 0, iI x2, iI x3, iR 72] (v.toList ++ [vI x2, vR 73]) M' Q)) ∧ (¬ (0 ≤ x2 ∧ x2 ≤ gI M 72 2 - 1) → Q (sI M 69 1 (wr (gI M 69 1 + 1))) (some (vI (-1000001))))))) ∧ (gI M 72 1 = 0 → Q (sI M 69 2 (wr (gI M 69 2 + 1))) (some (vI (-1000002)))))) ∧ (¬ (0 ≤ (0 : Int) ∧ (0 : Int) ≤ 3) → Q (sI M 69 1 (wr (gI M 69 1 + 1))) (some (vI (-1000001)))))) : Wq 3 0 0 mD_put 0 [iR 0, iI 0, iI x2, iI x3, none] [] M Q := by
  refine wq_iload_n (pc := 0) dD_put_0 rfl rfl ?_
  refine wq_callS (d' := 2) (pc := 1) (as := [vI 0]) (rest := []) (lo' := [iI 0]) dD_put_1 mO_D_isSheet lS_D_284 rfl rfl rfl rfl rfl rfl ?_
  refine sp_D_isSheet (fun c1 => ?_) (fun c1 => ?_)
  · have H := H.1 c1
    show Wq 3 0 0 mD_put 4 [iR 0, iI 0, iI x2, iI x3, none] [vI 1] M _
    refine wq_if_ne (pc := 4) (tgt := 14) dD_put_4 (by decide) (fun _ => ?_) (fun q => absurd q (by decide))
    refine wq_aload_n (pc := 14) dD_put_14 rfl rfl ?_
    refine wq_getR (pc := 15) (z := 5) (b := 68) dD_put_15 fO_D_42 sh_0 rfl rfl (rf_0_5 hS) ?_
    refine wq_iload_n (pc := 18) dD_put_18 rfl rfl ?_
    refine wq_aald (pc := 19) (b := 72) dD_put_19 sh_68 (by decide) (by decide) (rf_68_0 hS) ?_
    refine wq_astore (pc := 20) (lo' := [iR 0, iI 0, iI x2, iI x3, iR 72]) dD_put_20 rfl rfl ?_
    refine wq_aload (pc := 22) dD_put_22 rfl ?_
    refine wq_getI (pc := 24) (z := 1) dD_put_24 fO_D_287 sh_72 rfl rfl ?_
    refine wq_if_ne (pc := 27) (tgt := 37) dD_put_27 (by decide) (fun c2 => ?_) (fun c2 => ?_)
    · have H := H.1 c2
      obtain ⟨s3, H⟩ := H
      refine wq_iload_n (pc := 37) dD_put_37 rfl rfl ?_
      refine wq_iconst (pc := 38) dD_put_38 rfl ?_
      refine wq_aload (pc := 39) dD_put_39 rfl ?_
      refine wq_getI (pc := 41) (z := 2) dD_put_41 fO_D_320 sh_72 rfl rfl ?_
      refine wq_iconst (pc := 44) dD_put_44 rfl ?_
      refine wq_isub (pc := 45) dD_put_45 ?_
      refine wq_re (x := (wr (gI M 72 2 - 1))) (y := (gI M 72 2 - 1)) (Eq.trans (wr_eq (by omega) (by omega)) (by omega)) ?_
      refine wq_callS (d' := 1) (pc := 46) (as := [vI x2, vI 0, vI (gI M 72 2 - 1)]) (rest := []) (lo' := [iI x2, iI 0, iI (gI M 72 2 - 1)]) dD_put_46 mO_D_within lS_D_65 rfl rfl rfl rfl rfl rfl ?_
      refine sp_D_within (fun c4 => ?_) (fun c4 => ?_)
      · have H := H.1 c4
        show Wq 3 0 0 mD_put 49 [iR 0, iI 0, iI x2, iI x3, iR 72] [vI 1] M _
        refine wq_if_ne (pc := 49) (tgt := 59) dD_put_49 (by decide) (fun _ => ?_) (fun q => absurd q (by decide))
        refine wq_aload (pc := 59) dD_put_59 rfl ?_
        refine wq_getR (pc := 61) (z := 0) (b := 73) dD_put_61 fO_D_294 sh_72 rfl rfl (rf_72_0 hS) ?_
        refine wq_iload_n (pc := 64) dD_put_64 rfl rfl ?_
        refine wq_aload (pc := 65) dD_put_65 rfl ?_
        refine wq_iload_n (pc := 67) dD_put_67 rfl rfl ?_
        refine wq_callV (d' := 1) (pc := 68) (as := [vI x3]) (rest := [vI x2, vR 73]) (lo' := [iR 72, iI x3]) dD_put_68 mO_S_cut lV_D_323 sh_72 (by decide) cl_6 rfl rfl rfl rfl rfl rfl ?_
        exact H
      · have H := H.2 c4
        show Wq 3 0 0 mD_put 49 [iR 0, iI 0, iI x2, iI x3, iR 72] [vI 0] M _
        refine wq_if_ne (pc := 49) (tgt := 59) dD_put_49 (by decide) (fun q => absurd q (by decide)) (fun _ => ?_)
        refine wq_aload_n (pc := 52) dD_put_52 rfl rfl ?_
        refine wq_ldc (pc := 53) (z := (-1000001)) dD_put_53 kO_D_69 (by decide) ?_
        refine wq_callV (d' := 2) (pc := 55) (as := [vI (-1000001)]) (rest := []) (lo' := [iR 0, iI ((-1000001)), none]) dD_put_55 mO_D_finding lV_D_70 sh_0 (by decide) cl_10 rfl rfl rfl rfl rfl rfl ?_
        refine sp_D_finding (k := 1) (by decide) (by decide) (by decide) hS ?_
        show Wq 3 0 0 mD_put 58 [iR 0, iI 0, iI x2, iI x3, iR 72] [vI (-1000001)] (sI M 69 1 (wr (gI M 69 1 + 1))) _
        refine wq_ireturn (pc := 58) dD_put_58 trivial ?_
        exact H
    · have H := H.2 c2
      refine wq_aload_n (pc := 30) dD_put_30 rfl rfl ?_
      refine wq_ldc (pc := 31) (z := (-1000002)) dD_put_31 kO_D_125 (by decide) ?_
      refine wq_callV (d' := 2) (pc := 33) (as := [vI (-1000002)]) (rest := []) (lo' := [iR 0, iI ((-1000002)), none]) dD_put_33 mO_D_finding lV_D_70 sh_0 (by decide) cl_10 rfl rfl rfl rfl rfl rfl ?_
      refine sp_D_finding (k := 2) (by decide) (by decide) (by decide) hS ?_
      show Wq 3 0 0 mD_put 36 [iR 0, iI 0, iI x2, iI x3, iR 72] [vI (-1000002)] (sI M 69 2 (wr (gI M 69 2 + 1))) _
      refine wq_ireturn (pc := 36) dD_put_36 trivial ?_
      exact H
  · have H := H.2 c1
    show Wq 3 0 0 mD_put 4 [iR 0, iI 0, iI x2, iI x3, none] [vI 0] M _
    refine wq_if_ne (pc := 4) (tgt := 14) dD_put_4 (by decide) (fun q => absurd q (by decide)) (fun _ => ?_)
    refine wq_aload_n (pc := 7) dD_put_7 rfl rfl ?_
    refine wq_ldc (pc := 8) (z := (-1000001)) dD_put_8 kO_D_69 (by decide) ?_
    refine wq_callV (d' := 2) (pc := 10) (as := [vI (-1000001)]) (rest := []) (lo' := [iR 0, iI ((-1000001)), none]) dD_put_10 mO_D_finding lV_D_70 sh_0 (by decide) cl_10 rfl rfl rfl rfl rfl rfl ?_
    refine sp_D_finding (k := 1) (by decide) (by decide) (by decide) hS ?_
    show Wq 3 0 0 mD_put 13 [iR 0, iI 0, iI x2, iI x3, none] [vI (-1000001)] (sI M 69 1 (wr (gI M 69 1 + 1))) _
    refine wq_ireturn (pc := 13) dD_put_13 trivial ?_
    exact H

set_option maxRecDepth 20000 in
theorem B_D_put_s0_71 {x2 x3 y0 y1 : Int} {M : Mm} {Q : Mm → Option Mv → Prop} (H : ((0 ≤ y1 ∧ y1 < 24) ∧ Q (sI M 73 y1 y0) (some (vI 1)))) : Wq 3 0 0 mD_put 71 [iR 0, iI 0, iI x2, iI x3, iR 72] [vI y0, vI y1, vR 73] M Q := by
  obtain ⟨s1, H⟩ := H
  refine wq_iast (pc := 71) dD_put_71 sh_73 (by decide) s1.1 s1.2 ?_
  refine wq_iconst (pc := 72) dD_put_72 rfl ?_
  refine wq_ireturn (pc := 73) dD_put_73 trivial ?_
  exact H
set_option maxRecDepth 20000 in
theorem B_D_move_s00_0 {x2 x4 x5 : Int} {M : Mm} {Q : Mm → Option Mv → Prop} (hS : RefOK M) (H : ((0 ≤ (0 : Int) ∧ (0 : Int) ≤ 3 → ((0 ≤ (0 : Int) ∧ (0 : Int) ≤ 3 → ((gI M 72 1 = 0 → Q (sI M 69 2 (wr (gI M 69 2 + 1))) (some (vI (-1000002)))) ∧ (¬ gI M 72 1 = 0 → ((¬ gI M 72 1 = 0 → ((gI M 72 1 = gI M 72 1 → ((x5 < 0 → Q (sI M 69 1 (wr (gI M 69 1 + 1))) (some (vI (-1000001)))) ∧ (¬ x5 < 0 → ((-2147483648 ≤ gI M 72 2 - x5 ∧ gI M 72 2 - x5 < 2147483648) ∧ ((0 ≤ x2 ∧ x2 ≤ gI M 72 2 - x5 → ((0 ≤ x4 ∧ x4 ≤ gI M 72 2 - x5 → ((0 ≤ x2 ∧ 0 ≤ x4 ∧ 0 ≤ x5 ∧ x2 + x5 ≤ 24 ∧ x4 + x5 ≤ 24) ∧ Q (cI M 73 x2 73 x4 x5) (some (vI x5)))) ∧ (¬ (0 ≤ x4 ∧ x4 ≤ gI M 72 2 - x5) → Q (sI M 69 1 (wr (gI M 69 1 + 1))) (some (vI (-1000001)))))) ∧ (¬ (0 ≤ x2 ∧ x2 ≤ gI M 72 2 - x5) → Q (sI M 69 1 (wr (gI M 69 1 + 1))) (some (vI (-1000001))))))))) ∧ (¬ gI M 72 1 = gI M 72 1 → Q (sI M 69 5 (wr (gI M 69 5 + 1))) (some (vI (-1000005)))))) ∧ (gI M 72 1 = 0 → Q (sI M 69 2 (wr (gI M 69 2 + 1))) (some (vI (-1000002)))))))) ∧ (¬ (0 ≤ (0 : Int) ∧ (0 : Int) ≤ 3) → Q (sI M 69 1 (wr (gI M 69 1 + 1))) (some (vI (-1000001)))))) ∧ (¬ (0 ≤ (0 : Int) ∧ (0 : Int) ≤ 3) → Q (sI M 69 1 (wr (gI M 69 1 + 1))) (some (vI (-1000001)))))) : Wq 3 0 0 mD_move 0 [iR 0, iI 0, iI x2, iI 0, iI x4, iI x5, none, none] [] M Q := by
  refine wq_iload_n (pc := 0) dD_move_0 rfl rfl ?_
  refine wq_callS (d' := 2) (pc := 1) (as := [vI 0]) (rest := []) (lo' := [iI 0]) dD_move_1 mO_D_isSheet lS_D_284 rfl rfl rfl rfl rfl rfl ?_
  refine sp_D_isSheet (fun c1 => ?_) (fun c1 => ?_)
  · have H := H.1 c1
    show Wq 3 0 0 mD_move 4 [iR 0, iI 0, iI x2, iI 0, iI x4, iI x5, none, none] [vI 1] M _
    refine wq_if_eq (pc := 4) (tgt := 14) dD_move_4 (by decide) (fun q => absurd q (by decide)) (fun _ => ?_)
    refine wq_iload_n (pc := 7) dD_move_7 rfl rfl ?_
    refine wq_callS (d' := 2) (pc := 8) (as := [vI 0]) (rest := []) (lo' := [iI 0]) dD_move_8 mO_D_isSheet lS_D_284 rfl rfl rfl rfl rfl rfl ?_
    refine sp_D_isSheet (fun c2 => ?_) (fun c2 => ?_)
    · have H := H.1 c2
      show Wq 3 0 0 mD_move 11 [iR 0, iI 0, iI x2, iI 0, iI x4, iI x5, none, none] [vI 1] M _
      refine wq_if_ne (pc := 11) (tgt := 21) dD_move_11 (by decide) (fun _ => ?_) (fun q => absurd q (by decide))
      refine wq_aload_n (pc := 21) dD_move_21 rfl rfl ?_
      refine wq_getR (pc := 22) (z := 5) (b := 68) dD_move_22 fO_D_42 sh_0 rfl rfl (rf_0_5 hS) ?_
      refine wq_iload_n (pc := 25) dD_move_25 rfl rfl ?_
      refine wq_aald (pc := 26) (b := 72) dD_move_26 sh_68 (by decide) (by decide) (rf_68_0 hS) ?_
      refine wq_astore (pc := 27) (lo' := [iR 0, iI 0, iI x2, iI 0, iI x4, iI x5, iR 72, none]) dD_move_27 rfl rfl ?_
      refine wq_aload_n (pc := 29) dD_move_29 rfl rfl ?_
      refine wq_getR (pc := 30) (z := 5) (b := 68) dD_move_30 fO_D_42 sh_0 rfl rfl (rf_0_5 hS) ?_
      refine wq_iload_n (pc := 33) dD_move_33 rfl rfl ?_
      refine wq_aald (pc := 34) (b := 72) dD_move_34 sh_68 (by decide) (by decide) (rf_68_0 hS) ?_
      refine wq_astore (pc := 35) (lo' := [iR 0, iI 0, iI x2, iI 0, iI x4, iI x5, iR 72, iR 72]) dD_move_35 rfl rfl ?_
      refine wq_aload (pc := 37) dD_move_37 rfl ?_
      refine wq_getI (pc := 39) (z := 1) dD_move_39 fO_D_287 sh_72 rfl rfl ?_
      refine wq_if_eq (pc := 42) (tgt := 53) dD_move_42 (by decide) (fun c3 => ?_) (fun c3 => ?_)
      · have H := H.1 c3
        refine wq_aload_n (pc := 53) dD_move_53 rfl rfl ?_
        refine wq_ldc (pc := 54) (z := (-1000002)) dD_move_54 kO_D_125 (by decide) ?_
        refine wq_callV (d' := 2) (pc := 56) (as := [vI (-1000002)]) (rest := []) (lo' := [iR 0, iI ((-1000002)), none]) dD_move_56 mO_D_finding lV_D_70 sh_0 (by decide) cl_10 rfl rfl rfl rfl rfl rfl ?_
        refine sp_D_finding (k := 2) (by decide) (by decide) (by decide) hS ?_
        show Wq 3 0 0 mD_move 59 [iR 0, iI 0, iI x2, iI 0, iI x4, iI x5, iR 72, iR 72] [vI (-1000002)] (sI M 69 2 (wr (gI M 69 2 + 1))) _
        refine wq_ireturn (pc := 59) dD_move_59 trivial ?_
        exact H
      · have H := H.2 c3
        refine wq_aload (pc := 45) dD_move_45 rfl ?_
        refine wq_getI (pc := 47) (z := 1) dD_move_47 fO_D_287 sh_72 rfl rfl ?_
        refine wq_if_ne (pc := 50) (tgt := 60) dD_move_50 (by decide) (fun c4 => ?_) (fun c4 => ?_)
        · have H := H.1 c4
          refine wq_aload (pc := 60) dD_move_60 rfl ?_
          refine wq_getI (pc := 62) (z := 1) dD_move_62 fO_D_287 sh_72 rfl rfl ?_
          refine wq_aload (pc := 65) dD_move_65 rfl ?_
          refine wq_getI (pc := 67) (z := 1) dD_move_67 fO_D_287 sh_72 rfl rfl ?_
          refine wq_icmp_eq (pc := 70) (tgt := 80) dD_move_70 (by decide) (fun c5 => ?_) (fun c5 => ?_)
          · have H := H.1 c5
            refine wq_iload (pc := 80) dD_move_80 rfl ?_
            refine wq_if_lt (pc := 82) (tgt := 118) dD_move_82 (by decide) (fun c6 => ?_) (fun c6 => ?_)
            · have H := H.1 c6
              refine wq_aload_n (pc := 118) dD_move_118 rfl rfl ?_
              refine wq_ldc (pc := 119) (z := (-1000001)) dD_move_119 kO_D_69 (by decide) ?_
              refine wq_callV (d' := 2) (pc := 121) (as := [vI (-1000001)]) (rest := []) (lo' := [iR 0, iI ((-1000001)), none]) dD_move_121 mO_D_finding lV_D_70 sh_0 (by decide) cl_10 rfl rfl rfl rfl rfl rfl ?_
              refine sp_D_finding (k := 1) (by decide) (by decide) (by decide) hS ?_
              show Wq 3 0 0 mD_move 124 [iR 0, iI 0, iI x2, iI 0, iI x4, iI x5, iR 72, iR 72] [vI (-1000001)] (sI M 69 1 (wr (gI M 69 1 + 1))) _
              refine wq_ireturn (pc := 124) dD_move_124 trivial ?_
              exact H
            · have H := H.2 c6
              obtain ⟨s7, H⟩ := H
              refine wq_iload_n (pc := 85) dD_move_85 rfl rfl ?_
              refine wq_iconst (pc := 86) dD_move_86 rfl ?_
              refine wq_aload (pc := 87) dD_move_87 rfl ?_
              refine wq_getI (pc := 89) (z := 2) dD_move_89 fO_D_320 sh_72 rfl rfl ?_
              refine wq_iload (pc := 92) dD_move_92 rfl ?_
              refine wq_isub (pc := 94) dD_move_94 ?_
              refine wq_re (x := (wr (gI M 72 2 - x5))) (y := (gI M 72 2 - x5)) (Eq.trans (wr_eq (by omega) (by omega)) (by omega)) ?_
              refine wq_callS (d' := 1) (pc := 95) (as := [vI x2, vI 0, vI (gI M 72 2 - x5)]) (rest := []) (lo' := [iI x2, iI 0, iI (gI M 72 2 - x5)]) dD_move_95 mO_D_within lS_D_65 rfl rfl rfl rfl rfl rfl ?_
              refine sp_D_within (fun c8 => ?_) (fun c8 => ?_)
              · have H := H.1 c8
                show Wq 3 0 0 mD_move 98 [iR 0, iI 0, iI x2, iI 0, iI x4, iI x5, iR 72, iR 72] [vI 1] M _
                refine wq_if_eq (pc := 98) (tgt := 118) dD_move_98 (by decide) (fun q => absurd q (by decide)) (fun _ => ?_)
                refine wq_iload (pc := 101) dD_move_101 rfl ?_
                refine wq_iconst (pc := 103) dD_move_103 rfl ?_
                refine wq_aload (pc := 104) dD_move_104 rfl ?_
                refine wq_getI (pc := 106) (z := 2) dD_move_106 fO_D_320 sh_72 rfl rfl ?_
                refine wq_iload (pc := 109) dD_move_109 rfl ?_
                refine wq_isub (pc := 111) dD_move_111 ?_
                refine wq_re (x := (wr (gI M 72 2 - x5))) (y := (gI M 72 2 - x5)) (Eq.trans (wr_eq (by omega) (by omega)) (by omega)) ?_
                refine wq_callS (d' := 1) (pc := 112) (as := [vI x4, vI 0, vI (gI M 72 2 - x5)]) (rest := []) (lo' := [iI x4, iI 0, iI (gI M 72 2 - x5)]) dD_move_112 mO_D_within lS_D_65 rfl rfl rfl rfl rfl rfl ?_
                refine sp_D_within (fun c9 => ?_) (fun c9 => ?_)
                · have H := H.1 c9
                  show Wq 3 0 0 mD_move 115 [iR 0, iI 0, iI x2, iI 0, iI x4, iI x5, iR 72, iR 72] [vI 1] M _
                  obtain ⟨s10, H⟩ := H
                  refine wq_if_ne (pc := 115) (tgt := 125) dD_move_115 (by decide) (fun _ => ?_) (fun q => absurd q (by decide))
                  refine wq_aload (pc := 125) dD_move_125 rfl ?_
                  refine wq_getR (pc := 127) (z := 0) (b := 73) dD_move_127 fO_D_294 sh_72 rfl rfl (rf_72_0 hS) ?_
                  refine wq_iload_n (pc := 130) dD_move_130 rfl rfl ?_
                  refine wq_aload (pc := 131) dD_move_131 rfl ?_
                  refine wq_getR (pc := 133) (z := 0) (b := 73) dD_move_133 fO_D_294 sh_72 rfl rfl (rf_72_0 hS) ?_
                  refine wq_iload (pc := 136) dD_move_136 rfl ?_
                  refine wq_iload (pc := 138) dD_move_138 rfl ?_
                  refine wq_cpI (pc := 140) dD_move_140 aC_D_326 (Or.inl ⟨sh_73, sh_73⟩) (by decide) (by decide) s10.1 s10.2.1 s10.2.2.1 (by have := s10; omega) (by have := s10; omega) rfl ?_
                  refine wq_iload (pc := 143) dD_move_143 rfl ?_
                  refine wq_ireturn (pc := 145) dD_move_145 trivial ?_
                  exact H
                · have H := H.2 c9
                  show Wq 3 0 0 mD_move 115 [iR 0, iI 0, iI x2, iI 0, iI x4, iI x5, iR 72, iR 72] [vI 0] M _
                  refine wq_if_ne (pc := 115) (tgt := 125) dD_move_115 (by decide) (fun q => absurd q (by decide)) (fun _ => ?_)
                  refine wq_aload_n (pc := 118) dD_move_118 rfl rfl ?_
                  refine wq_ldc (pc := 119) (z := (-1000001)) dD_move_119 kO_D_69 (by decide) ?_
                  refine wq_callV (d' := 2) (pc := 121) (as := [vI (-1000001)]) (rest := []) (lo' := [iR 0, iI ((-1000001)), none]) dD_move_121 mO_D_finding lV_D_70 sh_0 (by decide) cl_10 rfl rfl rfl rfl rfl rfl ?_
                  refine sp_D_finding (k := 1) (by decide) (by decide) (by decide) hS ?_
                  show Wq 3 0 0 mD_move 124 [iR 0, iI 0, iI x2, iI 0, iI x4, iI x5, iR 72, iR 72] [vI (-1000001)] (sI M 69 1 (wr (gI M 69 1 + 1))) _
                  refine wq_ireturn (pc := 124) dD_move_124 trivial ?_
                  exact H
              · have H := H.2 c8
                show Wq 3 0 0 mD_move 98 [iR 0, iI 0, iI x2, iI 0, iI x4, iI x5, iR 72, iR 72] [vI 0] M _
                refine wq_if_eq (pc := 98) (tgt := 118) dD_move_98 (by decide) (fun _ => ?_) (fun q => absurd (by decide) q)
                refine wq_aload_n (pc := 118) dD_move_118 rfl rfl ?_
                refine wq_ldc (pc := 119) (z := (-1000001)) dD_move_119 kO_D_69 (by decide) ?_
                refine wq_callV (d' := 2) (pc := 121) (as := [vI (-1000001)]) (rest := []) (lo' := [iR 0, iI ((-1000001)), none]) dD_move_121 mO_D_finding lV_D_70 sh_0 (by decide) cl_10 rfl rfl rfl rfl rfl rfl ?_
                refine sp_D_finding (k := 1) (by decide) (by decide) (by decide) hS ?_
                show Wq 3 0 0 mD_move 124 [iR 0, iI 0, iI x2, iI 0, iI x4, iI x5, iR 72, iR 72] [vI (-1000001)] (sI M 69 1 (wr (gI M 69 1 + 1))) _
                refine wq_ireturn (pc := 124) dD_move_124 trivial ?_
                exact H
          · have H := H.2 c5
            refine wq_aload_n (pc := 73) dD_move_73 rfl rfl ?_
            refine wq_ldc (pc := 74) (z := (-1000005)) dD_move_74 kO_D_98 (by decide) ?_
            refine wq_callV (d' := 2) (pc := 76) (as := [vI (-1000005)]) (rest := []) (lo' := [iR 0, iI ((-1000005)), none]) dD_move_76 mO_D_finding lV_D_70 sh_0 (by decide) cl_10 rfl rfl rfl rfl rfl rfl ?_
            refine sp_D_finding (k := 5) (by decide) (by decide) (by decide) hS ?_
            show Wq 3 0 0 mD_move 79 [iR 0, iI 0, iI x2, iI 0, iI x4, iI x5, iR 72, iR 72] [vI (-1000005)] (sI M 69 5 (wr (gI M 69 5 + 1))) _
            refine wq_ireturn (pc := 79) dD_move_79 trivial ?_
            exact H
        · have H := H.2 c4
          refine wq_aload_n (pc := 53) dD_move_53 rfl rfl ?_
          refine wq_ldc (pc := 54) (z := (-1000002)) dD_move_54 kO_D_125 (by decide) ?_
          refine wq_callV (d' := 2) (pc := 56) (as := [vI (-1000002)]) (rest := []) (lo' := [iR 0, iI ((-1000002)), none]) dD_move_56 mO_D_finding lV_D_70 sh_0 (by decide) cl_10 rfl rfl rfl rfl rfl rfl ?_
          refine sp_D_finding (k := 2) (by decide) (by decide) (by decide) hS ?_
          show Wq 3 0 0 mD_move 59 [iR 0, iI 0, iI x2, iI 0, iI x4, iI x5, iR 72, iR 72] [vI (-1000002)] (sI M 69 2 (wr (gI M 69 2 + 1))) _
          refine wq_ireturn (pc := 59) dD_move_59 trivial ?_
          exact H
    · have H := H.2 c2
      show Wq 3 0 0 mD_move 11 [iR 0, iI 0, iI x2, iI 0, iI x4, iI x5, none, none] [vI 0] M _
      refine wq_if_ne (pc := 11) (tgt := 21) dD_move_11 (by decide) (fun q => absurd q (by decide)) (fun _ => ?_)
      refine wq_aload_n (pc := 14) dD_move_14 rfl rfl ?_
      refine wq_ldc (pc := 15) (z := (-1000001)) dD_move_15 kO_D_69 (by decide) ?_
      refine wq_callV (d' := 2) (pc := 17) (as := [vI (-1000001)]) (rest := []) (lo' := [iR 0, iI ((-1000001)), none]) dD_move_17 mO_D_finding lV_D_70 sh_0 (by decide) cl_10 rfl rfl rfl rfl rfl rfl ?_
      refine sp_D_finding (k := 1) (by decide) (by decide) (by decide) hS ?_
      show Wq 3 0 0 mD_move 20 [iR 0, iI 0, iI x2, iI 0, iI x4, iI x5, none, none] [vI (-1000001)] (sI M 69 1 (wr (gI M 69 1 + 1))) _
      refine wq_ireturn (pc := 20) dD_move_20 trivial ?_
      exact H
  · have H := H.2 c1
    show Wq 3 0 0 mD_move 4 [iR 0, iI 0, iI x2, iI 0, iI x4, iI x5, none, none] [vI 0] M _
    refine wq_if_eq (pc := 4) (tgt := 14) dD_move_4 (by decide) (fun _ => ?_) (fun q => absurd (by decide) q)
    refine wq_aload_n (pc := 14) dD_move_14 rfl rfl ?_
    refine wq_ldc (pc := 15) (z := (-1000001)) dD_move_15 kO_D_69 (by decide) ?_
    refine wq_callV (d' := 2) (pc := 17) (as := [vI (-1000001)]) (rest := []) (lo' := [iR 0, iI ((-1000001)), none]) dD_move_17 mO_D_finding lV_D_70 sh_0 (by decide) cl_10 rfl rfl rfl rfl rfl rfl ?_
    refine sp_D_finding (k := 1) (by decide) (by decide) (by decide) hS ?_
    show Wq 3 0 0 mD_move 20 [iR 0, iI 0, iI x2, iI 0, iI x4, iI x5, none, none] [vI (-1000001)] (sI M 69 1 (wr (gI M 69 1 + 1))) _
    refine wq_ireturn (pc := 20) dD_move_20 trivial ?_
    exact H
set_option maxRecDepth 20000 in
theorem B_D_move_s01_0 {x2 x4 x5 : Int} {M : Mm} {Q : Mm → Option Mv → Prop} (hS : RefOK M) (H : ((0 ≤ (0 : Int) ∧ (0 : Int) ≤ 3 → ((0 ≤ (1 : Int) ∧ (1 : Int) ≤ 3 → ((gI M 72 1 = 0 → Q (sI M 69 2 (wr (gI M 69 2 + 1))) (some (vI (-1000002)))) ∧ (¬ gI M 72 1 = 0 → ((¬ gI M 74 1 = 0 → ((gI M 72 1 = gI M 74 1 → ((x5 < 0 → Q (sI M 69 1 (wr (gI M 69 1 + 1))) (some (vI (-1000001)))) ∧ (¬ x5 < 0 → ((-2147483648 ≤ gI M 72 2 - x5 ∧ gI M 72 2 - x5 < 2147483648) ∧ ((0 ≤ x2 ∧ x2 ≤ gI M 72 2 - x5 → ((-2147483648 ≤ gI M 74 2 - x5 ∧ gI M 74 2 - x5 < 2147483648) ∧ ((0 ≤ x4 ∧ x4 ≤ gI M 74 2 - x5 → ((0 ≤ x2 ∧ 0 ≤ x4 ∧ 0 ≤ x5 ∧ x2 + x5 ≤ 24 ∧ x4 + x5 ≤ 24) ∧ Q (cI M 73 x2 75 x4 x5) (some (vI x5)))) ∧ (¬ (0 ≤ x4 ∧ x4 ≤ gI M 74 2 - x5) → Q (sI M 69 1 (wr (gI M 69 1 + 1))) (some (vI (-1000001))))))) ∧ (¬ (0 ≤ x2 ∧ x2 ≤ gI M 72 2 - x5) → Q (sI M 69 1 (wr (gI M 69 1 + 1))) (some (vI (-1000001))))))))) ∧ (¬ gI M 72 1 = gI M 74 1 → Q (sI M 69 5 (wr (gI M 69 5 + 1))) (some (vI (-1000005)))))) ∧ (gI M 74 1 = 0 → Q (sI M 69 2 (wr (gI M 69 2 + 1))) (some (vI (-1000002)))))))) ∧ (¬ (0 ≤ (1 : Int) ∧ (1 : Int) ≤ 3) → Q (sI M 69 1 (wr (gI M 69 1 + 1))) (some (vI (-1000001)))))) ∧ (¬ (0 ≤ (0 : Int) ∧ (0 : Int) ≤ 3) → Q (sI M 69 1 (wr (gI M 69 1 + 1))) (some (vI (-1000001)))))) : Wq 3 0 0 mD_move 0 [iR 0, iI 0, iI x2, iI 1, iI x4, iI x5, none, none] [] M Q := by
  refine wq_iload_n (pc := 0) dD_move_0 rfl rfl ?_
  refine wq_callS (d' := 2) (pc := 1) (as := [vI 0]) (rest := []) (lo' := [iI 0]) dD_move_1 mO_D_isSheet lS_D_284 rfl rfl rfl rfl rfl rfl ?_
  refine sp_D_isSheet (fun c1 => ?_) (fun c1 => ?_)
  · have H := H.1 c1
    show Wq 3 0 0 mD_move 4 [iR 0, iI 0, iI x2, iI 1, iI x4, iI x5, none, none] [vI 1] M _
    refine wq_if_eq (pc := 4) (tgt := 14) dD_move_4 (by decide) (fun q => absurd q (by decide)) (fun _ => ?_)
    refine wq_iload_n (pc := 7) dD_move_7 rfl rfl ?_
    refine wq_callS (d' := 2) (pc := 8) (as := [vI 1]) (rest := []) (lo' := [iI 1]) dD_move_8 mO_D_isSheet lS_D_284 rfl rfl rfl rfl rfl rfl ?_
    refine sp_D_isSheet (fun c2 => ?_) (fun c2 => ?_)
    · have H := H.1 c2
      show Wq 3 0 0 mD_move 11 [iR 0, iI 0, iI x2, iI 1, iI x4, iI x5, none, none] [vI 1] M _
      refine wq_if_ne (pc := 11) (tgt := 21) dD_move_11 (by decide) (fun _ => ?_) (fun q => absurd q (by decide))
      refine wq_aload_n (pc := 21) dD_move_21 rfl rfl ?_
      refine wq_getR (pc := 22) (z := 5) (b := 68) dD_move_22 fO_D_42 sh_0 rfl rfl (rf_0_5 hS) ?_
      refine wq_iload_n (pc := 25) dD_move_25 rfl rfl ?_
      refine wq_aald (pc := 26) (b := 72) dD_move_26 sh_68 (by decide) (by decide) (rf_68_0 hS) ?_
      refine wq_astore (pc := 27) (lo' := [iR 0, iI 0, iI x2, iI 1, iI x4, iI x5, iR 72, none]) dD_move_27 rfl rfl ?_
      refine wq_aload_n (pc := 29) dD_move_29 rfl rfl ?_
      refine wq_getR (pc := 30) (z := 5) (b := 68) dD_move_30 fO_D_42 sh_0 rfl rfl (rf_0_5 hS) ?_
      refine wq_iload_n (pc := 33) dD_move_33 rfl rfl ?_
      refine wq_aald (pc := 34) (b := 74) dD_move_34 sh_68 (by decide) (by decide) (rf_68_1 hS) ?_
      refine wq_astore (pc := 35) (lo' := [iR 0, iI 0, iI x2, iI 1, iI x4, iI x5, iR 72, iR 74]) dD_move_35 rfl rfl ?_
      refine wq_aload (pc := 37) dD_move_37 rfl ?_
      refine wq_getI (pc := 39) (z := 1) dD_move_39 fO_D_287 sh_72 rfl rfl ?_
      refine wq_if_eq (pc := 42) (tgt := 53) dD_move_42 (by decide) (fun c3 => ?_) (fun c3 => ?_)
      · have H := H.1 c3
        refine wq_aload_n (pc := 53) dD_move_53 rfl rfl ?_
        refine wq_ldc (pc := 54) (z := (-1000002)) dD_move_54 kO_D_125 (by decide) ?_
        refine wq_callV (d' := 2) (pc := 56) (as := [vI (-1000002)]) (rest := []) (lo' := [iR 0, iI ((-1000002)), none]) dD_move_56 mO_D_finding lV_D_70 sh_0 (by decide) cl_10 rfl rfl rfl rfl rfl rfl ?_
        refine sp_D_finding (k := 2) (by decide) (by decide) (by decide) hS ?_
        show Wq 3 0 0 mD_move 59 [iR 0, iI 0, iI x2, iI 1, iI x4, iI x5, iR 72, iR 74] [vI (-1000002)] (sI M 69 2 (wr (gI M 69 2 + 1))) _
        refine wq_ireturn (pc := 59) dD_move_59 trivial ?_
        exact H
      · have H := H.2 c3
        refine wq_aload (pc := 45) dD_move_45 rfl ?_
        refine wq_getI (pc := 47) (z := 1) dD_move_47 fO_D_287 sh_74 rfl rfl ?_
        refine wq_if_ne (pc := 50) (tgt := 60) dD_move_50 (by decide) (fun c4 => ?_) (fun c4 => ?_)
        · have H := H.1 c4
          refine wq_aload (pc := 60) dD_move_60 rfl ?_
          refine wq_getI (pc := 62) (z := 1) dD_move_62 fO_D_287 sh_72 rfl rfl ?_
          refine wq_aload (pc := 65) dD_move_65 rfl ?_
          refine wq_getI (pc := 67) (z := 1) dD_move_67 fO_D_287 sh_74 rfl rfl ?_
          refine wq_icmp_eq (pc := 70) (tgt := 80) dD_move_70 (by decide) (fun c5 => ?_) (fun c5 => ?_)
          · have H := H.1 c5
            refine wq_iload (pc := 80) dD_move_80 rfl ?_
            refine wq_if_lt (pc := 82) (tgt := 118) dD_move_82 (by decide) (fun c6 => ?_) (fun c6 => ?_)
            · have H := H.1 c6
              refine wq_aload_n (pc := 118) dD_move_118 rfl rfl ?_
              refine wq_ldc (pc := 119) (z := (-1000001)) dD_move_119 kO_D_69 (by decide) ?_
              refine wq_callV (d' := 2) (pc := 121) (as := [vI (-1000001)]) (rest := []) (lo' := [iR 0, iI ((-1000001)), none]) dD_move_121 mO_D_finding lV_D_70 sh_0 (by decide) cl_10 rfl rfl rfl rfl rfl rfl ?_
              refine sp_D_finding (k := 1) (by decide) (by decide) (by decide) hS ?_
              show Wq 3 0 0 mD_move 124 [iR 0, iI 0, iI x2, iI 1, iI x4, iI x5, iR 72, iR 74] [vI (-1000001)] (sI M 69 1 (wr (gI M 69 1 + 1))) _
              refine wq_ireturn (pc := 124) dD_move_124 trivial ?_
              exact H
            · have H := H.2 c6
              obtain ⟨s7, H⟩ := H
              refine wq_iload_n (pc := 85) dD_move_85 rfl rfl ?_
              refine wq_iconst (pc := 86) dD_move_86 rfl ?_
              refine wq_aload (pc := 87) dD_move_87 rfl ?_
              refine wq_getI (pc := 89) (z := 2) dD_move_89 fO_D_320 sh_72 rfl rfl ?_
              refine wq_iload (pc := 92) dD_move_92 rfl ?_
              refine wq_isub (pc := 94) dD_move_94 ?_
              refine wq_re (x := (wr (gI M 72 2 - x5))) (y := (gI M 72 2 - x5)) (Eq.trans (wr_eq (by omega) (by omega)) (by omega)) ?_
              refine wq_callS (d' := 1) (pc := 95) (as := [vI x2, vI 0, vI (gI M 72 2 - x5)]) (rest := []) (lo' := [iI x2, iI 0, iI (gI M 72 2 - x5)]) dD_move_95 mO_D_within lS_D_65 rfl rfl rfl rfl rfl rfl ?_
              refine sp_D_within (fun c8 => ?_) (fun c8 => ?_)
              · have H := H.1 c8
                show Wq 3 0 0 mD_move 98 [iR 0, iI 0, iI x2, iI 1, iI x4, iI x5, iR 72, iR 74] [vI 1] M _
                obtain ⟨s9, H⟩ := H
                refine wq_if_eq (pc := 98) (tgt := 118) dD_move_98 (by decide) (fun q => absurd q (by decide)) (fun _ => ?_)
                refine wq_iload (pc := 101) dD_move_101 rfl ?_
                refine wq_iconst (pc := 103) dD_move_103 rfl ?_
                refine wq_aload (pc := 104) dD_move_104 rfl ?_
                refine wq_getI (pc := 106) (z := 2) dD_move_106 fO_D_320 sh_74 rfl rfl ?_
                refine wq_iload (pc := 109) dD_move_109 rfl ?_
                refine wq_isub (pc := 111) dD_move_111 ?_
                refine wq_re (x := (wr (gI M 74 2 - x5))) (y := (gI M 74 2 - x5)) (Eq.trans (wr_eq (by omega) (by omega)) (by omega)) ?_
                refine wq_callS (d' := 1) (pc := 112) (as := [vI x4, vI 0, vI (gI M 74 2 - x5)]) (rest := []) (lo' := [iI x4, iI 0, iI (gI M 74 2 - x5)]) dD_move_112 mO_D_within lS_D_65 rfl rfl rfl rfl rfl rfl ?_
                refine sp_D_within (fun c10 => ?_) (fun c10 => ?_)
                · have H := H.1 c10
                  show Wq 3 0 0 mD_move 115 [iR 0, iI 0, iI x2, iI 1, iI x4, iI x5, iR 72, iR 74] [vI 1] M _
                  obtain ⟨s11, H⟩ := H
                  refine wq_if_ne (pc := 115) (tgt := 125) dD_move_115 (by decide) (fun _ => ?_) (fun q => absurd q (by decide))
                  refine wq_aload (pc := 125) dD_move_125 rfl ?_
                  refine wq_getR (pc := 127) (z := 0) (b := 73) dD_move_127 fO_D_294 sh_72 rfl rfl (rf_72_0 hS) ?_
                  refine wq_iload_n (pc := 130) dD_move_130 rfl rfl ?_
                  refine wq_aload (pc := 131) dD_move_131 rfl ?_
                  refine wq_getR (pc := 133) (z := 0) (b := 75) dD_move_133 fO_D_294 sh_74 rfl rfl (rf_74_0 hS) ?_
                  refine wq_iload (pc := 136) dD_move_136 rfl ?_
                  refine wq_iload (pc := 138) dD_move_138 rfl ?_
                  refine wq_cpI (pc := 140) dD_move_140 aC_D_326 (Or.inl ⟨sh_73, sh_75⟩) (by decide) (by decide) s11.1 s11.2.1 s11.2.2.1 (by have := s11; omega) (by have := s11; omega) rfl ?_
                  refine wq_iload (pc := 143) dD_move_143 rfl ?_
                  refine wq_ireturn (pc := 145) dD_move_145 trivial ?_
                  exact H
                · have H := H.2 c10
                  show Wq 3 0 0 mD_move 115 [iR 0, iI 0, iI x2, iI 1, iI x4, iI x5, iR 72, iR 74] [vI 0] M _
                  refine wq_if_ne (pc := 115) (tgt := 125) dD_move_115 (by decide) (fun q => absurd q (by decide)) (fun _ => ?_)
                  refine wq_aload_n (pc := 118) dD_move_118 rfl rfl ?_
                  refine wq_ldc (pc := 119) (z := (-1000001)) dD_move_119 kO_D_69 (by decide) ?_
                  refine wq_callV (d' := 2) (pc := 121) (as := [vI (-1000001)]) (rest := []) (lo' := [iR 0, iI ((-1000001)), none]) dD_move_121 mO_D_finding lV_D_70 sh_0 (by decide) cl_10 rfl rfl rfl rfl rfl rfl ?_
                  refine sp_D_finding (k := 1) (by decide) (by decide) (by decide) hS ?_
                  show Wq 3 0 0 mD_move 124 [iR 0, iI 0, iI x2, iI 1, iI x4, iI x5, iR 72, iR 74] [vI (-1000001)] (sI M 69 1 (wr (gI M 69 1 + 1))) _
                  refine wq_ireturn (pc := 124) dD_move_124 trivial ?_
                  exact H
              · have H := H.2 c8
                show Wq 3 0 0 mD_move 98 [iR 0, iI 0, iI x2, iI 1, iI x4, iI x5, iR 72, iR 74] [vI 0] M _
                refine wq_if_eq (pc := 98) (tgt := 118) dD_move_98 (by decide) (fun _ => ?_) (fun q => absurd (by decide) q)
                refine wq_aload_n (pc := 118) dD_move_118 rfl rfl ?_
                refine wq_ldc (pc := 119) (z := (-1000001)) dD_move_119 kO_D_69 (by decide) ?_
                refine wq_callV (d' := 2) (pc := 121) (as := [vI (-1000001)]) (rest := []) (lo' := [iR 0, iI ((-1000001)), none]) dD_move_121 mO_D_finding lV_D_70 sh_0 (by decide) cl_10 rfl rfl rfl rfl rfl rfl ?_
                refine sp_D_finding (k := 1) (by decide) (by decide) (by decide) hS ?_
                show Wq 3 0 0 mD_move 124 [iR 0, iI 0, iI x2, iI 1, iI x4, iI x5, iR 72, iR 74] [vI (-1000001)] (sI M 69 1 (wr (gI M 69 1 + 1))) _
                refine wq_ireturn (pc := 124) dD_move_124 trivial ?_
                exact H
          · have H := H.2 c5
            refine wq_aload_n (pc := 73) dD_move_73 rfl rfl ?_
            refine wq_ldc (pc := 74) (z := (-1000005)) dD_move_74 kO_D_98 (by decide) ?_
            refine wq_callV (d' := 2) (pc := 76) (as := [vI (-1000005)]) (rest := []) (lo' := [iR 0, iI ((-1000005)), none]) dD_move_76 mO_D_finding lV_D_70 sh_0 (by decide) cl_10 rfl rfl rfl rfl rfl rfl ?_
            refine sp_D_finding (k := 5) (by decide) (by decide) (by decide) hS ?_
            show Wq 3 0 0 mD_move 79 [iR 0, iI 0, iI x2, iI 1, iI x4, iI x5, iR 72, iR 74] [vI (-1000005)] (sI M 69 5 (wr (gI M 69 5 + 1))) _
            refine wq_ireturn (pc := 79) dD_move_79 trivial ?_
            exact H
        · have H := H.2 c4
          refine wq_aload_n (pc := 53) dD_move_53 rfl rfl ?_
          refine wq_ldc (pc := 54) (z := (-1000002)) dD_move_54 kO_D_125 (by decide) ?_
          refine wq_callV (d' := 2) (pc := 56) (as := [vI (-1000002)]) (rest := []) (lo' := [iR 0, iI ((-1000002)), none]) dD_move_56 mO_D_finding lV_D_70 sh_0 (by decide) cl_10 rfl rfl rfl rfl rfl rfl ?_
          refine sp_D_finding (k := 2) (by decide) (by decide) (by decide) hS ?_
          show Wq 3 0 0 mD_move 59 [iR 0, iI 0, iI x2, iI 1, iI x4, iI x5, iR 72, iR 74] [vI (-1000002)] (sI M 69 2 (wr (gI M 69 2 + 1))) _
          refine wq_ireturn (pc := 59) dD_move_59 trivial ?_
          exact H
    · have H := H.2 c2
      show Wq 3 0 0 mD_move 11 [iR 0, iI 0, iI x2, iI 1, iI x4, iI x5, none, none] [vI 0] M _
      refine wq_if_ne (pc := 11) (tgt := 21) dD_move_11 (by decide) (fun q => absurd q (by decide)) (fun _ => ?_)
      refine wq_aload_n (pc := 14) dD_move_14 rfl rfl ?_
      refine wq_ldc (pc := 15) (z := (-1000001)) dD_move_15 kO_D_69 (by decide) ?_
      refine wq_callV (d' := 2) (pc := 17) (as := [vI (-1000001)]) (rest := []) (lo' := [iR 0, iI ((-1000001)), none]) dD_move_17 mO_D_finding lV_D_70 sh_0 (by decide) cl_10 rfl rfl rfl rfl rfl rfl ?_
      refine sp_D_finding (k := 1) (by decide) (by decide) (by decide) hS ?_
      show Wq 3 0 0 mD_move 20 [iR 0, iI 0, iI x2, iI 1, iI x4, iI x5, none, none] [vI (-1000001)] (sI M 69 1 (wr (gI M 69 1 + 1))) _
      refine wq_ireturn (pc := 20) dD_move_20 trivial ?_
      exact H
  · have H := H.2 c1
    show Wq 3 0 0 mD_move 4 [iR 0, iI 0, iI x2, iI 1, iI x4, iI x5, none, none] [vI 0] M _
    refine wq_if_eq (pc := 4) (tgt := 14) dD_move_4 (by decide) (fun _ => ?_) (fun q => absurd (by decide) q)
    refine wq_aload_n (pc := 14) dD_move_14 rfl rfl ?_
    refine wq_ldc (pc := 15) (z := (-1000001)) dD_move_15 kO_D_69 (by decide) ?_
    refine wq_callV (d' := 2) (pc := 17) (as := [vI (-1000001)]) (rest := []) (lo' := [iR 0, iI ((-1000001)), none]) dD_move_17 mO_D_finding lV_D_70 sh_0 (by decide) cl_10 rfl rfl rfl rfl rfl rfl ?_
    refine sp_D_finding (k := 1) (by decide) (by decide) (by decide) hS ?_
    show Wq 3 0 0 mD_move 20 [iR 0, iI 0, iI x2, iI 1, iI x4, iI x5, none, none] [vI (-1000001)] (sI M 69 1 (wr (gI M 69 1 + 1))) _
    refine wq_ireturn (pc := 20) dD_move_20 trivial ?_
    exact H
set_option maxRecDepth 20000 in
theorem B_D_move_s02_0 {x2 x4 x5 : Int} {M : Mm} {Q : Mm → Option Mv → Prop} (hS : RefOK M) (H : ((0 ≤ (0 : Int) ∧ (0 : Int) ≤ 3 → ((0 ≤ (2 : Int) ∧ (2 : Int) ≤ 3 → ((gI M 72 1 = 0 → Q (sI M 69 2 (wr (gI M 69 2 + 1))) (some (vI (-1000002)))) ∧ (¬ gI M 72 1 = 0 → ((¬ gI M 76 1 = 0 → ((gI M 72 1 = gI M 76 1 → ((x5 < 0 → Q (sI M 69 1 (wr (gI M 69 1 + 1))) (some (vI (-1000001)))) ∧ (¬ x5 < 0 → ((-2147483648 ≤ gI M 72 2 - x5 ∧ gI M 72 2 - x5 < 2147483648) ∧ ((0 ≤ x2 ∧ x2 ≤ gI M 72 2 - x5 → ((-2147483648 ≤ gI M 76 2 - x5 ∧ gI M 76 2 - x5 < 2147483648) ∧ ((0 ≤ x4 ∧ x4 ≤ gI M 76 2 - x5 → ((0 ≤ x2 ∧ 0 ≤ x4 ∧ 0 ≤ x5 ∧ x2 + x5 ≤ 24 ∧ x4 + x5 ≤ 24) ∧ Q (cI M 73 x2 77 x4 x5) (some (vI x5)))) ∧ (¬ (0 ≤ x4 ∧ x4 ≤ gI M 76 2 - x5) → Q (sI M 69 1 (wr (gI M 69 1 + 1))) (some (vI (-1000001))))))) ∧ (¬ (0 ≤ x2 ∧ x2 ≤ gI M 72 2 - x5) → Q (sI M 69 1 (wr (gI M 69 1 + 1))) (some (vI (-1000001))))))))) ∧ (¬ gI M 72 1 = gI M 76 1 → Q (sI M 69 5 (wr (gI M 69 5 + 1))) (some (vI (-1000005)))))) ∧ (gI M 76 1 = 0 → Q (sI M 69 2 (wr (gI M 69 2 + 1))) (some (vI (-1000002)))))))) ∧ (¬ (0 ≤ (2 : Int) ∧ (2 : Int) ≤ 3) → Q (sI M 69 1 (wr (gI M 69 1 + 1))) (some (vI (-1000001)))))) ∧ (¬ (0 ≤ (0 : Int) ∧ (0 : Int) ≤ 3) → Q (sI M 69 1 (wr (gI M 69 1 + 1))) (some (vI (-1000001)))))) : Wq 3 0 0 mD_move 0 [iR 0, iI 0, iI x2, iI 2, iI x4, iI x5, none, none] [] M Q := by
  refine wq_iload_n (pc := 0) dD_move_0 rfl rfl ?_
  refine wq_callS (d' := 2) (pc := 1) (as := [vI 0]) (rest := []) (lo' := [iI 0]) dD_move_1 mO_D_isSheet lS_D_284 rfl rfl rfl rfl rfl rfl ?_
  refine sp_D_isSheet (fun c1 => ?_) (fun c1 => ?_)
  · have H := H.1 c1
    show Wq 3 0 0 mD_move 4 [iR 0, iI 0, iI x2, iI 2, iI x4, iI x5, none, none] [vI 1] M _
    refine wq_if_eq (pc := 4) (tgt := 14) dD_move_4 (by decide) (fun q => absurd q (by decide)) (fun _ => ?_)
    refine wq_iload_n (pc := 7) dD_move_7 rfl rfl ?_
    refine wq_callS (d' := 2) (pc := 8) (as := [vI 2]) (rest := []) (lo' := [iI 2]) dD_move_8 mO_D_isSheet lS_D_284 rfl rfl rfl rfl rfl rfl ?_
    refine sp_D_isSheet (fun c2 => ?_) (fun c2 => ?_)
    · have H := H.1 c2
      show Wq 3 0 0 mD_move 11 [iR 0, iI 0, iI x2, iI 2, iI x4, iI x5, none, none] [vI 1] M _
      refine wq_if_ne (pc := 11) (tgt := 21) dD_move_11 (by decide) (fun _ => ?_) (fun q => absurd q (by decide))
      refine wq_aload_n (pc := 21) dD_move_21 rfl rfl ?_
      refine wq_getR (pc := 22) (z := 5) (b := 68) dD_move_22 fO_D_42 sh_0 rfl rfl (rf_0_5 hS) ?_
      refine wq_iload_n (pc := 25) dD_move_25 rfl rfl ?_
      refine wq_aald (pc := 26) (b := 72) dD_move_26 sh_68 (by decide) (by decide) (rf_68_0 hS) ?_
      refine wq_astore (pc := 27) (lo' := [iR 0, iI 0, iI x2, iI 2, iI x4, iI x5, iR 72, none]) dD_move_27 rfl rfl ?_
      refine wq_aload_n (pc := 29) dD_move_29 rfl rfl ?_
      refine wq_getR (pc := 30) (z := 5) (b := 68) dD_move_30 fO_D_42 sh_0 rfl rfl (rf_0_5 hS) ?_
      refine wq_iload_n (pc := 33) dD_move_33 rfl rfl ?_
      refine wq_aald (pc := 34) (b := 76) dD_move_34 sh_68 (by decide) (by decide) (rf_68_2 hS) ?_
      refine wq_astore (pc := 35) (lo' := [iR 0, iI 0, iI x2, iI 2, iI x4, iI x5, iR 72, iR 76]) dD_move_35 rfl rfl ?_
      refine wq_aload (pc := 37) dD_move_37 rfl ?_
      refine wq_getI (pc := 39) (z := 1) dD_move_39 fO_D_287 sh_72 rfl rfl ?_
      refine wq_if_eq (pc := 42) (tgt := 53) dD_move_42 (by decide) (fun c3 => ?_) (fun c3 => ?_)
      · have H := H.1 c3
        refine wq_aload_n (pc := 53) dD_move_53 rfl rfl ?_
        refine wq_ldc (pc := 54) (z := (-1000002)) dD_move_54 kO_D_125 (by decide) ?_
        refine wq_callV (d' := 2) (pc := 56) (as := [vI (-1000002)]) (rest := []) (lo' := [iR 0, iI ((-1000002)), none]) dD_move_56 mO_D_finding lV_D_70 sh_0 (by decide) cl_10 rfl rfl rfl rfl rfl rfl ?_
        refine sp_D_finding (k := 2) (by decide) (by decide) (by decide) hS ?_
        show Wq 3 0 0 mD_move 59 [iR 0, iI 0, iI x2, iI 2, iI x4, iI x5, iR 72, iR 76] [vI (-1000002)] (sI M 69 2 (wr (gI M 69 2 + 1))) _
        refine wq_ireturn (pc := 59) dD_move_59 trivial ?_
        exact H
      · have H := H.2 c3
        refine wq_aload (pc := 45) dD_move_45 rfl ?_
        refine wq_getI (pc := 47) (z := 1) dD_move_47 fO_D_287 sh_76 rfl rfl ?_
        refine wq_if_ne (pc := 50) (tgt := 60) dD_move_50 (by decide) (fun c4 => ?_) (fun c4 => ?_)
        · have H := H.1 c4
          refine wq_aload (pc := 60) dD_move_60 rfl ?_
          refine wq_getI (pc := 62) (z := 1) dD_move_62 fO_D_287 sh_72 rfl rfl ?_
          refine wq_aload (pc := 65) dD_move_65 rfl ?_
          refine wq_getI (pc := 67) (z := 1) dD_move_67 fO_D_287 sh_76 rfl rfl ?_
          refine wq_icmp_eq (pc := 70) (tgt := 80) dD_move_70 (by decide) (fun c5 => ?_) (fun c5 => ?_)
          · have H := H.1 c5
            refine wq_iload (pc := 80) dD_move_80 rfl ?_
            refine wq_if_lt (pc := 82) (tgt := 118) dD_move_82 (by decide) (fun c6 => ?_) (fun c6 => ?_)
            · have H := H.1 c6
              refine wq_aload_n (pc := 118) dD_move_118 rfl rfl ?_
              refine wq_ldc (pc := 119) (z := (-1000001)) dD_move_119 kO_D_69 (by decide) ?_
              refine wq_callV (d' := 2) (pc := 121) (as := [vI (-1000001)]) (rest := []) (lo' := [iR 0, iI ((-1000001)), none]) dD_move_121 mO_D_finding lV_D_70 sh_0 (by decide) cl_10 rfl rfl rfl rfl rfl rfl ?_
              refine sp_D_finding (k := 1) (by decide) (by decide) (by decide) hS ?_
              show Wq 3 0 0 mD_move 124 [iR 0, iI 0, iI x2, iI 2, iI x4, iI x5, iR 72, iR 76] [vI (-1000001)] (sI M 69 1 (wr (gI M 69 1 + 1))) _
              refine wq_ireturn (pc := 124) dD_move_124 trivial ?_
              exact H
            · have H := H.2 c6
              obtain ⟨s7, H⟩ := H
              refine wq_iload_n (pc := 85) dD_move_85 rfl rfl ?_
              refine wq_iconst (pc := 86) dD_move_86 rfl ?_
              refine wq_aload (pc := 87) dD_move_87 rfl ?_
              refine wq_getI (pc := 89) (z := 2) dD_move_89 fO_D_320 sh_72 rfl rfl ?_
              refine wq_iload (pc := 92) dD_move_92 rfl ?_
              refine wq_isub (pc := 94) dD_move_94 ?_
              refine wq_re (x := (wr (gI M 72 2 - x5))) (y := (gI M 72 2 - x5)) (Eq.trans (wr_eq (by omega) (by omega)) (by omega)) ?_
              refine wq_callS (d' := 1) (pc := 95) (as := [vI x2, vI 0, vI (gI M 72 2 - x5)]) (rest := []) (lo' := [iI x2, iI 0, iI (gI M 72 2 - x5)]) dD_move_95 mO_D_within lS_D_65 rfl rfl rfl rfl rfl rfl ?_
              refine sp_D_within (fun c8 => ?_) (fun c8 => ?_)
              · have H := H.1 c8
                show Wq 3 0 0 mD_move 98 [iR 0, iI 0, iI x2, iI 2, iI x4, iI x5, iR 72, iR 76] [vI 1] M _
                obtain ⟨s9, H⟩ := H
                refine wq_if_eq (pc := 98) (tgt := 118) dD_move_98 (by decide) (fun q => absurd q (by decide)) (fun _ => ?_)
                refine wq_iload (pc := 101) dD_move_101 rfl ?_
                refine wq_iconst (pc := 103) dD_move_103 rfl ?_
                refine wq_aload (pc := 104) dD_move_104 rfl ?_
                refine wq_getI (pc := 106) (z := 2) dD_move_106 fO_D_320 sh_76 rfl rfl ?_
                refine wq_iload (pc := 109) dD_move_109 rfl ?_
                refine wq_isub (pc := 111) dD_move_111 ?_
                refine wq_re (x := (wr (gI M 76 2 - x5))) (y := (gI M 76 2 - x5)) (Eq.trans (wr_eq (by omega) (by omega)) (by omega)) ?_
                refine wq_callS (d' := 1) (pc := 112) (as := [vI x4, vI 0, vI (gI M 76 2 - x5)]) (rest := []) (lo' := [iI x4, iI 0, iI (gI M 76 2 - x5)]) dD_move_112 mO_D_within lS_D_65 rfl rfl rfl rfl rfl rfl ?_
                refine sp_D_within (fun c10 => ?_) (fun c10 => ?_)
                · have H := H.1 c10
                  show Wq 3 0 0 mD_move 115 [iR 0, iI 0, iI x2, iI 2, iI x4, iI x5, iR 72, iR 76] [vI 1] M _
                  obtain ⟨s11, H⟩ := H
                  refine wq_if_ne (pc := 115) (tgt := 125) dD_move_115 (by decide) (fun _ => ?_) (fun q => absurd q (by decide))
                  refine wq_aload (pc := 125) dD_move_125 rfl ?_
                  refine wq_getR (pc := 127) (z := 0) (b := 73) dD_move_127 fO_D_294 sh_72 rfl rfl (rf_72_0 hS) ?_
                  refine wq_iload_n (pc := 130) dD_move_130 rfl rfl ?_
                  refine wq_aload (pc := 131) dD_move_131 rfl ?_
                  refine wq_getR (pc := 133) (z := 0) (b := 77) dD_move_133 fO_D_294 sh_76 rfl rfl (rf_76_0 hS) ?_
                  refine wq_iload (pc := 136) dD_move_136 rfl ?_
                  refine wq_iload (pc := 138) dD_move_138 rfl ?_
                  refine wq_cpI (pc := 140) dD_move_140 aC_D_326 (Or.inl ⟨sh_73, sh_77⟩) (by decide) (by decide) s11.1 s11.2.1 s11.2.2.1 (by have := s11; omega) (by have := s11; omega) rfl ?_
                  refine wq_iload (pc := 143) dD_move_143 rfl ?_
                  refine wq_ireturn (pc := 145) dD_move_145 trivial ?_
                  exact H
                · have H := H.2 c10
                  show Wq 3 0 0 mD_move 115 [iR 0, iI 0, iI x2, iI 2, iI x4, iI x5, iR 72, iR 76] [vI 0] M _
                  refine wq_if_ne (pc := 115) (tgt := 125) dD_move_115 (by decide) (fun q => absurd q (by decide)) (fun _ => ?_)
                  refine wq_aload_n (pc := 118) dD_move_118 rfl rfl ?_
                  refine wq_ldc (pc := 119) (z := (-1000001)) dD_move_119 kO_D_69 (by decide) ?_
                  refine wq_callV (d' := 2) (pc := 121) (as := [vI (-1000001)]) (rest := []) (lo' := [iR 0, iI ((-1000001)), none]) dD_move_121 mO_D_finding lV_D_70 sh_0 (by decide) cl_10 rfl rfl rfl rfl rfl rfl ?_
                  refine sp_D_finding (k := 1) (by decide) (by decide) (by decide) hS ?_
                  show Wq 3 0 0 mD_move 124 [iR 0, iI 0, iI x2, iI 2, iI x4, iI x5, iR 72, iR 76] [vI (-1000001)] (sI M 69 1 (wr (gI M 69 1 + 1))) _
                  refine wq_ireturn (pc := 124) dD_move_124 trivial ?_
                  exact H
              · have H := H.2 c8
                show Wq 3 0 0 mD_move 98 [iR 0, iI 0, iI x2, iI 2, iI x4, iI x5, iR 72, iR 76] [vI 0] M _
                refine wq_if_eq (pc := 98) (tgt := 118) dD_move_98 (by decide) (fun _ => ?_) (fun q => absurd (by decide) q)
                refine wq_aload_n (pc := 118) dD_move_118 rfl rfl ?_
                refine wq_ldc (pc := 119) (z := (-1000001)) dD_move_119 kO_D_69 (by decide) ?_
                refine wq_callV (d' := 2) (pc := 121) (as := [vI (-1000001)]) (rest := []) (lo' := [iR 0, iI ((-1000001)), none]) dD_move_121 mO_D_finding lV_D_70 sh_0 (by decide) cl_10 rfl rfl rfl rfl rfl rfl ?_
                refine sp_D_finding (k := 1) (by decide) (by decide) (by decide) hS ?_
                show Wq 3 0 0 mD_move 124 [iR 0, iI 0, iI x2, iI 2, iI x4, iI x5, iR 72, iR 76] [vI (-1000001)] (sI M 69 1 (wr (gI M 69 1 + 1))) _
                refine wq_ireturn (pc := 124) dD_move_124 trivial ?_
                exact H
          · have H := H.2 c5
            refine wq_aload_n (pc := 73) dD_move_73 rfl rfl ?_
            refine wq_ldc (pc := 74) (z := (-1000005)) dD_move_74 kO_D_98 (by decide) ?_
            refine wq_callV (d' := 2) (pc := 76) (as := [vI (-1000005)]) (rest := []) (lo' := [iR 0, iI ((-1000005)), none]) dD_move_76 mO_D_finding lV_D_70 sh_0 (by decide) cl_10 rfl rfl rfl rfl rfl rfl ?_
            refine sp_D_finding (k := 5) (by decide) (by decide) (by decide) hS ?_
            show Wq 3 0 0 mD_move 79 [iR 0, iI 0, iI x2, iI 2, iI x4, iI x5, iR 72, iR 76] [vI (-1000005)] (sI M 69 5 (wr (gI M 69 5 + 1))) _
            refine wq_ireturn (pc := 79) dD_move_79 trivial ?_
            exact H
        · have H := H.2 c4
          refine wq_aload_n (pc := 53) dD_move_53 rfl rfl ?_
          refine wq_ldc (pc := 54) (z := (-1000002)) dD_move_54 kO_D_125 (by decide) ?_
          refine wq_callV (d' := 2) (pc := 56) (as := [vI (-1000002)]) (rest := []) (lo' := [iR 0, iI ((-1000002)), none]) dD_move_56 mO_D_finding lV_D_70 sh_0 (by decide) cl_10 rfl rfl rfl rfl rfl rfl ?_
          refine sp_D_finding (k := 2) (by decide) (by decide) (by decide) hS ?_
          show Wq 3 0 0 mD_move 59 [iR 0, iI 0, iI x2, iI 2, iI x4, iI x5, iR 72, iR 76] [vI (-1000002)] (sI M 69 2 (wr (gI M 69 2 + 1))) _
          refine wq_ireturn (pc := 59) dD_move_59 trivial ?_
          exact H
    · have H := H.2 c2
      show Wq 3 0 0 mD_move 11 [iR 0, iI 0, iI x2, iI 2, iI x4, iI x5, none, none] [vI 0] M _
      refine wq_if_ne (pc := 11) (tgt := 21) dD_move_11 (by decide) (fun q => absurd q (by decide)) (fun _ => ?_)
      refine wq_aload_n (pc := 14) dD_move_14 rfl rfl ?_
      refine wq_ldc (pc := 15) (z := (-1000001)) dD_move_15 kO_D_69 (by decide) ?_
      refine wq_callV (d' := 2) (pc := 17) (as := [vI (-1000001)]) (rest := []) (lo' := [iR 0, iI ((-1000001)), none]) dD_move_17 mO_D_finding lV_D_70 sh_0 (by decide) cl_10 rfl rfl rfl rfl rfl rfl ?_
      refine sp_D_finding (k := 1) (by decide) (by decide) (by decide) hS ?_
      show Wq 3 0 0 mD_move 20 [iR 0, iI 0, iI x2, iI 2, iI x4, iI x5, none, none] [vI (-1000001)] (sI M 69 1 (wr (gI M 69 1 + 1))) _
      refine wq_ireturn (pc := 20) dD_move_20 trivial ?_
      exact H
  · have H := H.2 c1
    show Wq 3 0 0 mD_move 4 [iR 0, iI 0, iI x2, iI 2, iI x4, iI x5, none, none] [vI 0] M _
    refine wq_if_eq (pc := 4) (tgt := 14) dD_move_4 (by decide) (fun _ => ?_) (fun q => absurd (by decide) q)
    refine wq_aload_n (pc := 14) dD_move_14 rfl rfl ?_
    refine wq_ldc (pc := 15) (z := (-1000001)) dD_move_15 kO_D_69 (by decide) ?_
    refine wq_callV (d' := 2) (pc := 17) (as := [vI (-1000001)]) (rest := []) (lo' := [iR 0, iI ((-1000001)), none]) dD_move_17 mO_D_finding lV_D_70 sh_0 (by decide) cl_10 rfl rfl rfl rfl rfl rfl ?_
    refine sp_D_finding (k := 1) (by decide) (by decide) (by decide) hS ?_
    show Wq 3 0 0 mD_move 20 [iR 0, iI 0, iI x2, iI 2, iI x4, iI x5, none, none] [vI (-1000001)] (sI M 69 1 (wr (gI M 69 1 + 1))) _
    refine wq_ireturn (pc := 20) dD_move_20 trivial ?_
    exact H
set_option maxRecDepth 20000 in
theorem B_D_move_s03_0 {x2 x4 x5 : Int} {M : Mm} {Q : Mm → Option Mv → Prop} (hS : RefOK M) (H : ((0 ≤ (0 : Int) ∧ (0 : Int) ≤ 3 → ((0 ≤ (3 : Int) ∧ (3 : Int) ≤ 3 → ((gI M 72 1 = 0 → Q (sI M 69 2 (wr (gI M 69 2 + 1))) (some (vI (-1000002)))) ∧ (¬ gI M 72 1 = 0 → ((¬ gI M 78 1 = 0 → ((gI M 72 1 = gI M 78 1 → ((x5 < 0 → Q (sI M 69 1 (wr (gI M 69 1 + 1))) (some (vI (-1000001)))) ∧ (¬ x5 < 0 → ((-2147483648 ≤ gI M 72 2 - x5 ∧ gI M 72 2 - x5 < 2147483648) ∧ ((0 ≤ x2 ∧ x2 ≤ gI M 72 2 - x5 → ((-2147483648 ≤ gI M 78 2 - x5 ∧ gI M 78 2 - x5 < 2147483648) ∧ ((0 ≤ x4 ∧ x4 ≤ gI M 78 2 - x5 → ((0 ≤ x2 ∧ 0 ≤ x4 ∧ 0 ≤ x5 ∧ x2 + x5 ≤ 24 ∧ x4 + x5 ≤ 24) ∧ Q (cI M 73 x2 79 x4 x5) (some (vI x5)))) ∧ (¬ (0 ≤ x4 ∧ x4 ≤ gI M 78 2 - x5) → Q (sI M 69 1 (wr (gI M 69 1 + 1))) (some (vI (-1000001))))))) ∧ (¬ (0 ≤ x2 ∧ x2 ≤ gI M 72 2 - x5) → Q (sI M 69 1 (wr (gI M 69 1 + 1))) (some (vI (-1000001))))))))) ∧ (¬ gI M 72 1 = gI M 78 1 → Q (sI M 69 5 (wr (gI M 69 5 + 1))) (some (vI (-1000005)))))) ∧ (gI M 78 1 = 0 → Q (sI M 69 2 (wr (gI M 69 2 + 1))) (some (vI (-1000002)))))))) ∧ (¬ (0 ≤ (3 : Int) ∧ (3 : Int) ≤ 3) → Q (sI M 69 1 (wr (gI M 69 1 + 1))) (some (vI (-1000001)))))) ∧ (¬ (0 ≤ (0 : Int) ∧ (0 : Int) ≤ 3) → Q (sI M 69 1 (wr (gI M 69 1 + 1))) (some (vI (-1000001)))))) : Wq 3 0 0 mD_move 0 [iR 0, iI 0, iI x2, iI 3, iI x4, iI x5, none, none] [] M Q := by
  refine wq_iload_n (pc := 0) dD_move_0 rfl rfl ?_
  refine wq_callS (d' := 2) (pc := 1) (as := [vI 0]) (rest := []) (lo' := [iI 0]) dD_move_1 mO_D_isSheet lS_D_284 rfl rfl rfl rfl rfl rfl ?_
  refine sp_D_isSheet (fun c1 => ?_) (fun c1 => ?_)
  · have H := H.1 c1
    show Wq 3 0 0 mD_move 4 [iR 0, iI 0, iI x2, iI 3, iI x4, iI x5, none, none] [vI 1] M _
    refine wq_if_eq (pc := 4) (tgt := 14) dD_move_4 (by decide) (fun q => absurd q (by decide)) (fun _ => ?_)
    refine wq_iload_n (pc := 7) dD_move_7 rfl rfl ?_
    refine wq_callS (d' := 2) (pc := 8) (as := [vI 3]) (rest := []) (lo' := [iI 3]) dD_move_8 mO_D_isSheet lS_D_284 rfl rfl rfl rfl rfl rfl ?_
    refine sp_D_isSheet (fun c2 => ?_) (fun c2 => ?_)
    · have H := H.1 c2
      show Wq 3 0 0 mD_move 11 [iR 0, iI 0, iI x2, iI 3, iI x4, iI x5, none, none] [vI 1] M _
      refine wq_if_ne (pc := 11) (tgt := 21) dD_move_11 (by decide) (fun _ => ?_) (fun q => absurd q (by decide))
      refine wq_aload_n (pc := 21) dD_move_21 rfl rfl ?_
      refine wq_getR (pc := 22) (z := 5) (b := 68) dD_move_22 fO_D_42 sh_0 rfl rfl (rf_0_5 hS) ?_
      refine wq_iload_n (pc := 25) dD_move_25 rfl rfl ?_
      refine wq_aald (pc := 26) (b := 72) dD_move_26 sh_68 (by decide) (by decide) (rf_68_0 hS) ?_
      refine wq_astore (pc := 27) (lo' := [iR 0, iI 0, iI x2, iI 3, iI x4, iI x5, iR 72, none]) dD_move_27 rfl rfl ?_
      refine wq_aload_n (pc := 29) dD_move_29 rfl rfl ?_
      refine wq_getR (pc := 30) (z := 5) (b := 68) dD_move_30 fO_D_42 sh_0 rfl rfl (rf_0_5 hS) ?_
      refine wq_iload_n (pc := 33) dD_move_33 rfl rfl ?_
      refine wq_aald (pc := 34) (b := 78) dD_move_34 sh_68 (by decide) (by decide) (rf_68_3 hS) ?_
      refine wq_astore (pc := 35) (lo' := [iR 0, iI 0, iI x2, iI 3, iI x4, iI x5, iR 72, iR 78]) dD_move_35 rfl rfl ?_
      refine wq_aload (pc := 37) dD_move_37 rfl ?_
      refine wq_getI (pc := 39) (z := 1) dD_move_39 fO_D_287 sh_72 rfl rfl ?_
      refine wq_if_eq (pc := 42) (tgt := 53) dD_move_42 (by decide) (fun c3 => ?_) (fun c3 => ?_)
      · have H := H.1 c3
        refine wq_aload_n (pc := 53) dD_move_53 rfl rfl ?_
        refine wq_ldc (pc := 54) (z := (-1000002)) dD_move_54 kO_D_125 (by decide) ?_
        refine wq_callV (d' := 2) (pc := 56) (as := [vI (-1000002)]) (rest := []) (lo' := [iR 0, iI ((-1000002)), none]) dD_move_56 mO_D_finding lV_D_70 sh_0 (by decide) cl_10 rfl rfl rfl rfl rfl rfl ?_
        refine sp_D_finding (k := 2) (by decide) (by decide) (by decide) hS ?_
        show Wq 3 0 0 mD_move 59 [iR 0, iI 0, iI x2, iI 3, iI x4, iI x5, iR 72, iR 78] [vI (-1000002)] (sI M 69 2 (wr (gI M 69 2 + 1))) _
        refine wq_ireturn (pc := 59) dD_move_59 trivial ?_
        exact H
      · have H := H.2 c3
        refine wq_aload (pc := 45) dD_move_45 rfl ?_
        refine wq_getI (pc := 47) (z := 1) dD_move_47 fO_D_287 sh_78 rfl rfl ?_
        refine wq_if_ne (pc := 50) (tgt := 60) dD_move_50 (by decide) (fun c4 => ?_) (fun c4 => ?_)
        · have H := H.1 c4
          refine wq_aload (pc := 60) dD_move_60 rfl ?_
          refine wq_getI (pc := 62) (z := 1) dD_move_62 fO_D_287 sh_72 rfl rfl ?_
          refine wq_aload (pc := 65) dD_move_65 rfl ?_
          refine wq_getI (pc := 67) (z := 1) dD_move_67 fO_D_287 sh_78 rfl rfl ?_
          refine wq_icmp_eq (pc := 70) (tgt := 80) dD_move_70 (by decide) (fun c5 => ?_) (fun c5 => ?_)
          · have H := H.1 c5
            refine wq_iload (pc := 80) dD_move_80 rfl ?_
            refine wq_if_lt (pc := 82) (tgt := 118) dD_move_82 (by decide) (fun c6 => ?_) (fun c6 => ?_)
            · have H := H.1 c6
              refine wq_aload_n (pc := 118) dD_move_118 rfl rfl ?_
              refine wq_ldc (pc := 119) (z := (-1000001)) dD_move_119 kO_D_69 (by decide) ?_
              refine wq_callV (d' := 2) (pc := 121) (as := [vI (-1000001)]) (rest := []) (lo' := [iR 0, iI ((-1000001)), none]) dD_move_121 mO_D_finding lV_D_70 sh_0 (by decide) cl_10 rfl rfl rfl rfl rfl rfl ?_
              refine sp_D_finding (k := 1) (by decide) (by decide) (by decide) hS ?_
              show Wq 3 0 0 mD_move 124 [iR 0, iI 0, iI x2, iI 3, iI x4, iI x5, iR 72, iR 78] [vI (-1000001)] (sI M 69 1 (wr (gI M 69 1 + 1))) _
              refine wq_ireturn (pc := 124) dD_move_124 trivial ?_
              exact H
            · have H := H.2 c6
              obtain ⟨s7, H⟩ := H
              refine wq_iload_n (pc := 85) dD_move_85 rfl rfl ?_
              refine wq_iconst (pc := 86) dD_move_86 rfl ?_
              refine wq_aload (pc := 87) dD_move_87 rfl ?_
              refine wq_getI (pc := 89) (z := 2) dD_move_89 fO_D_320 sh_72 rfl rfl ?_
              refine wq_iload (pc := 92) dD_move_92 rfl ?_
              refine wq_isub (pc := 94) dD_move_94 ?_
              refine wq_re (x := (wr (gI M 72 2 - x5))) (y := (gI M 72 2 - x5)) (Eq.trans (wr_eq (by omega) (by omega)) (by omega)) ?_
              refine wq_callS (d' := 1) (pc := 95) (as := [vI x2, vI 0, vI (gI M 72 2 - x5)]) (rest := []) (lo' := [iI x2, iI 0, iI (gI M 72 2 - x5)]) dD_move_95 mO_D_within lS_D_65 rfl rfl rfl rfl rfl rfl ?_
              refine sp_D_within (fun c8 => ?_) (fun c8 => ?_)
              · have H := H.1 c8
                show Wq 3 0 0 mD_move 98 [iR 0, iI 0, iI x2, iI 3, iI x4, iI x5, iR 72, iR 78] [vI 1] M _
                obtain ⟨s9, H⟩ := H
                refine wq_if_eq (pc := 98) (tgt := 118) dD_move_98 (by decide) (fun q => absurd q (by decide)) (fun _ => ?_)
                refine wq_iload (pc := 101) dD_move_101 rfl ?_
                refine wq_iconst (pc := 103) dD_move_103 rfl ?_
                refine wq_aload (pc := 104) dD_move_104 rfl ?_
                refine wq_getI (pc := 106) (z := 2) dD_move_106 fO_D_320 sh_78 rfl rfl ?_
                refine wq_iload (pc := 109) dD_move_109 rfl ?_
                refine wq_isub (pc := 111) dD_move_111 ?_
                refine wq_re (x := (wr (gI M 78 2 - x5))) (y := (gI M 78 2 - x5)) (Eq.trans (wr_eq (by omega) (by omega)) (by omega)) ?_
                refine wq_callS (d' := 1) (pc := 112) (as := [vI x4, vI 0, vI (gI M 78 2 - x5)]) (rest := []) (lo' := [iI x4, iI 0, iI (gI M 78 2 - x5)]) dD_move_112 mO_D_within lS_D_65 rfl rfl rfl rfl rfl rfl ?_
                refine sp_D_within (fun c10 => ?_) (fun c10 => ?_)
                · have H := H.1 c10
                  show Wq 3 0 0 mD_move 115 [iR 0, iI 0, iI x2, iI 3, iI x4, iI x5, iR 72, iR 78] [vI 1] M _
                  obtain ⟨s11, H⟩ := H
                  refine wq_if_ne (pc := 115) (tgt := 125) dD_move_115 (by decide) (fun _ => ?_) (fun q => absurd q (by decide))
                  refine wq_aload (pc := 125) dD_move_125 rfl ?_
                  refine wq_getR (pc := 127) (z := 0) (b := 73) dD_move_127 fO_D_294 sh_72 rfl rfl (rf_72_0 hS) ?_
                  refine wq_iload_n (pc := 130) dD_move_130 rfl rfl ?_
                  refine wq_aload (pc := 131) dD_move_131 rfl ?_
                  refine wq_getR (pc := 133) (z := 0) (b := 79) dD_move_133 fO_D_294 sh_78 rfl rfl (rf_78_0 hS) ?_
                  refine wq_iload (pc := 136) dD_move_136 rfl ?_
                  refine wq_iload (pc := 138) dD_move_138 rfl ?_
                  refine wq_cpI (pc := 140) dD_move_140 aC_D_326 (Or.inl ⟨sh_73, sh_79⟩) (by decide) (by decide) s11.1 s11.2.1 s11.2.2.1 (by have := s11; omega) (by have := s11; omega) rfl ?_
                  refine wq_iload (pc := 143) dD_move_143 rfl ?_
                  refine wq_ireturn (pc := 145) dD_move_145 trivial ?_
                  exact H
                · have H := H.2 c10
                  show Wq 3 0 0 mD_move 115 [iR 0, iI 0, iI x2, iI 3, iI x4, iI x5, iR 72, iR 78] [vI 0] M _
                  refine wq_if_ne (pc := 115) (tgt := 125) dD_move_115 (by decide) (fun q => absurd q (by decide)) (fun _ => ?_)
                  refine wq_aload_n (pc := 118) dD_move_118 rfl rfl ?_
                  refine wq_ldc (pc := 119) (z := (-1000001)) dD_move_119 kO_D_69 (by decide) ?_
                  refine wq_callV (d' := 2) (pc := 121) (as := [vI (-1000001)]) (rest := []) (lo' := [iR 0, iI ((-1000001)), none]) dD_move_121 mO_D_finding lV_D_70 sh_0 (by decide) cl_10 rfl rfl rfl rfl rfl rfl ?_
                  refine sp_D_finding (k := 1) (by decide) (by decide) (by decide) hS ?_
                  show Wq 3 0 0 mD_move 124 [iR 0, iI 0, iI x2, iI 3, iI x4, iI x5, iR 72, iR 78] [vI (-1000001)] (sI M 69 1 (wr (gI M 69 1 + 1))) _
                  refine wq_ireturn (pc := 124) dD_move_124 trivial ?_
                  exact H
              · have H := H.2 c8
                show Wq 3 0 0 mD_move 98 [iR 0, iI 0, iI x2, iI 3, iI x4, iI x5, iR 72, iR 78] [vI 0] M _
                refine wq_if_eq (pc := 98) (tgt := 118) dD_move_98 (by decide) (fun _ => ?_) (fun q => absurd (by decide) q)
                refine wq_aload_n (pc := 118) dD_move_118 rfl rfl ?_
                refine wq_ldc (pc := 119) (z := (-1000001)) dD_move_119 kO_D_69 (by decide) ?_
                refine wq_callV (d' := 2) (pc := 121) (as := [vI (-1000001)]) (rest := []) (lo' := [iR 0, iI ((-1000001)), none]) dD_move_121 mO_D_finding lV_D_70 sh_0 (by decide) cl_10 rfl rfl rfl rfl rfl rfl ?_
                refine sp_D_finding (k := 1) (by decide) (by decide) (by decide) hS ?_
                show Wq 3 0 0 mD_move 124 [iR 0, iI 0, iI x2, iI 3, iI x4, iI x5, iR 72, iR 78] [vI (-1000001)] (sI M 69 1 (wr (gI M 69 1 + 1))) _
                refine wq_ireturn (pc := 124) dD_move_124 trivial ?_
                exact H
          · have H := H.2 c5
            refine wq_aload_n (pc := 73) dD_move_73 rfl rfl ?_
            refine wq_ldc (pc := 74) (z := (-1000005)) dD_move_74 kO_D_98 (by decide) ?_
            refine wq_callV (d' := 2) (pc := 76) (as := [vI (-1000005)]) (rest := []) (lo' := [iR 0, iI ((-1000005)), none]) dD_move_76 mO_D_finding lV_D_70 sh_0 (by decide) cl_10 rfl rfl rfl rfl rfl rfl ?_
            refine sp_D_finding (k := 5) (by decide) (by decide) (by decide) hS ?_
            show Wq 3 0 0 mD_move 79 [iR 0, iI 0, iI x2, iI 3, iI x4, iI x5, iR 72, iR 78] [vI (-1000005)] (sI M 69 5 (wr (gI M 69 5 + 1))) _
            refine wq_ireturn (pc := 79) dD_move_79 trivial ?_
            exact H
        · have H := H.2 c4
          refine wq_aload_n (pc := 53) dD_move_53 rfl rfl ?_
          refine wq_ldc (pc := 54) (z := (-1000002)) dD_move_54 kO_D_125 (by decide) ?_
          refine wq_callV (d' := 2) (pc := 56) (as := [vI (-1000002)]) (rest := []) (lo' := [iR 0, iI ((-1000002)), none]) dD_move_56 mO_D_finding lV_D_70 sh_0 (by decide) cl_10 rfl rfl rfl rfl rfl rfl ?_
          refine sp_D_finding (k := 2) (by decide) (by decide) (by decide) hS ?_
          show Wq 3 0 0 mD_move 59 [iR 0, iI 0, iI x2, iI 3, iI x4, iI x5, iR 72, iR 78] [vI (-1000002)] (sI M 69 2 (wr (gI M 69 2 + 1))) _
          refine wq_ireturn (pc := 59) dD_move_59 trivial ?_
          exact H
    · have H := H.2 c2
      show Wq 3 0 0 mD_move 11 [iR 0, iI 0, iI x2, iI 3, iI x4, iI x5, none, none] [vI 0] M _
      refine wq_if_ne (pc := 11) (tgt := 21) dD_move_11 (by decide) (fun q => absurd q (by decide)) (fun _ => ?_)
      refine wq_aload_n (pc := 14) dD_move_14 rfl rfl ?_
      refine wq_ldc (pc := 15) (z := (-1000001)) dD_move_15 kO_D_69 (by decide) ?_
      refine wq_callV (d' := 2) (pc := 17) (as := [vI (-1000001)]) (rest := []) (lo' := [iR 0, iI ((-1000001)), none]) dD_move_17 mO_D_finding lV_D_70 sh_0 (by decide) cl_10 rfl rfl rfl rfl rfl rfl ?_
      refine sp_D_finding (k := 1) (by decide) (by decide) (by decide) hS ?_
      show Wq 3 0 0 mD_move 20 [iR 0, iI 0, iI x2, iI 3, iI x4, iI x5, none, none] [vI (-1000001)] (sI M 69 1 (wr (gI M 69 1 + 1))) _
      refine wq_ireturn (pc := 20) dD_move_20 trivial ?_
      exact H
  · have H := H.2 c1
    show Wq 3 0 0 mD_move 4 [iR 0, iI 0, iI x2, iI 3, iI x4, iI x5, none, none] [vI 0] M _
    refine wq_if_eq (pc := 4) (tgt := 14) dD_move_4 (by decide) (fun _ => ?_) (fun q => absurd (by decide) q)
    refine wq_aload_n (pc := 14) dD_move_14 rfl rfl ?_
    refine wq_ldc (pc := 15) (z := (-1000001)) dD_move_15 kO_D_69 (by decide) ?_
    refine wq_callV (d' := 2) (pc := 17) (as := [vI (-1000001)]) (rest := []) (lo' := [iR 0, iI ((-1000001)), none]) dD_move_17 mO_D_finding lV_D_70 sh_0 (by decide) cl_10 rfl rfl rfl rfl rfl rfl ?_
    refine sp_D_finding (k := 1) (by decide) (by decide) (by decide) hS ?_
    show Wq 3 0 0 mD_move 20 [iR 0, iI 0, iI x2, iI 3, iI x4, iI x5, none, none] [vI (-1000001)] (sI M 69 1 (wr (gI M 69 1 + 1))) _
    refine wq_ireturn (pc := 20) dD_move_20 trivial ?_
    exact H
set_option maxRecDepth 20000 in
theorem B_D_sheet_s1_0 {x2 x3 : Int} {M : Mm} {Q : Mm → Option Mv → Prop} (hS : RefOK M) (H : ((0 ≤ (1 : Int) ∧ (1 : Int) ≤ 3 → ((x2 = 0 → ((x2 = 0 → ((x2 = 0 → ((¬ x2 = 0 → Wq 1 0 0 mS_renew 0 [iR 74, iI x2, iI x3, none] [] M (fun M' v => Wq 3 0 0 mD_sheet 87 [iR 0, iI 1, iI x2, iI x3] (v.toList ++ []) M' Q)) ∧ (x2 = 0 → Wq 1 0 0 mS_renew 0 [iR 74, iI x2, iI 0, none] [] M (fun M' v => Wq 3 0 0 mD_sheet 87 [iR 0, iI 1, iI x2, iI x3] (v.toList ++ []) M' Q)))) ∧ (¬ x2 = 0 → ((x3 ≤ 24 → ((¬ x2 = 0 → Wq 1 0 0 mS_renew 0 [iR 74, iI x2, iI x3, none] [] M (fun M' v => Wq 3 0 0 mD_sheet 87 [iR 0, iI 1, iI x2, iI x3] (v.toList ++ []) M' Q)) ∧ (x2 = 0 → Wq 1 0 0 mS_renew 0 [iR 74, iI x2, iI 0, none] [] M (fun M' v => Wq 3 0 0 mD_sheet 87 [iR 0, iI 1, iI x2, iI x3] (v.toList ++ []) M' Q)))) ∧ (¬ x3 ≤ 24 → Q (sI M 69 1 (wr (gI M 69 1 + 1))) (some (vI (-1000001)))))))) ∧ (¬ x2 = 0 → ((0 ≤ x3 → ((x2 = 0 → ((¬ x2 = 0 → Wq 1 0 0 mS_renew 0 [iR 74, iI x2, iI x3, none] [] M (fun M' v => Wq 3 0 0 mD_sheet 87 [iR 0, iI 1, iI x2, iI x3] (v.toList ++ []) M' Q)) ∧ (x2 = 0 → Wq 1 0 0 mS_renew 0 [iR 74, iI x2, iI 0, none] [] M (fun M' v => Wq 3 0 0 mD_sheet 87 [iR 0, iI 1, iI x2, iI x3] (v.toList ++ []) M' Q)))) ∧ (¬ x2 = 0 → ((x3 ≤ 24 → ((¬ x2 = 0 → Wq 1 0 0 mS_renew 0 [iR 74, iI x2, iI x3, none] [] M (fun M' v => Wq 3 0 0 mD_sheet 87 [iR 0, iI 1, iI x2, iI x3] (v.toList ++ []) M' Q)) ∧ (x2 = 0 → Wq 1 0 0 mS_renew 0 [iR 74, iI x2, iI 0, none] [] M (fun M' v => Wq 3 0 0 mD_sheet 87 [iR 0, iI 1, iI x2, iI x3] (v.toList ++ []) M' Q)))) ∧ (¬ x3 ≤ 24 → Q (sI M 69 1 (wr (gI M 69 1 + 1))) (some (vI (-1000001)))))))) ∧ (¬ 0 ≤ x3 → Q (sI M 69 3 (wr (gI M 69 3 + 1))) (some (vI (-1000003)))))))) ∧ (¬ x2 = 0 → ((x2 = 8 → ((x2 = 0 → ((x2 = 0 → ((¬ x2 = 0 → Wq 1 0 0 mS_renew 0 [iR 74, iI x2, iI x3, none] [] M (fun M' v => Wq 3 0 0 mD_sheet 87 [iR 0, iI 1, iI x2, iI x3] (v.toList ++ []) M' Q)) ∧ (x2 = 0 → Wq 1 0 0 mS_renew 0 [iR 74, iI x2, iI 0, none] [] M (fun M' v => Wq 3 0 0 mD_sheet 87 [iR 0, iI 1, iI x2, iI x3] (v.toList ++ []) M' Q)))) ∧ (¬ x2 = 0 → ((x3 ≤ 24 → ((¬ x2 = 0 → Wq 1 0 0 mS_renew 0 [iR 74, iI x2, iI x3, none] [] M (fun M' v => Wq 3 0 0 mD_sheet 87 [iR 0, iI 1, iI x2, iI x3] (v.toList ++ []) M' Q)) ∧ (x2 = 0 → Wq 1 0 0 mS_renew 0 [iR 74, iI x2, iI 0, none] [] M (fun M' v => Wq 3 0 0 mD_sheet 87 [iR 0, iI 1, iI x2, iI x3] (v.toList ++ []) M' Q)))) ∧ (¬ x3 ≤ 24 → Q (sI M 69 1 (wr (gI M 69 1 + 1))) (some (vI (-1000001)))))))) ∧ (¬ x2 = 0 → ((0 ≤ x3 → ((x2 = 0 → ((¬ x2 = 0 → Wq 1 0 0 mS_renew 0 [iR 74, iI x2, iI x3, none] [] M (fun M' v => Wq 3 0 0 mD_sheet 87 [iR 0, iI 1, iI x2, iI x3] (v.toList ++ []) M' Q)) ∧ (x2 = 0 → Wq 1 0 0 mS_renew 0 [iR 74, iI x2, iI 0, none] [] M (fun M' v => Wq 3 0 0 mD_sheet 87 [iR 0, iI 1, iI x2, iI x3] (v.toList ++ []) M' Q)))) ∧ (¬ x2 = 0 → ((x3 ≤ 24 → ((¬ x2 = 0 → Wq 1 0 0 mS_renew 0 [iR 74, iI x2, iI x3, none] [] M (fun M' v => Wq 3 0 0 mD_sheet 87 [iR 0, iI 1, iI x2, iI x3] (v.toList ++ []) M' Q)) ∧ (x2 = 0 → Wq 1 0 0 mS_renew 0 [iR 74, iI x2, iI 0, none] [] M (fun M' v => Wq 3 0 0 mD_sheet 87 [iR 0, iI 1, iI x2, iI x3] (v.toList ++ []) M' Q)))) ∧ (¬ x3 ≤ 24 → Q (sI M 69 1 (wr (gI M 69 1 + 1))) (some (vI (-1000001)))))))) ∧ (¬ 0 ≤ x3 → Q (sI M 69 3 (wr (gI M 69 3 + 1))) (some (vI (-1000003)))))))) ∧ (¬ x2 = 8 → ((x2 = 16 → ((x2 = 0 → ((x2 = 0 → ((¬ x2 = 0 → Wq 1 0 0 mS_renew 0 [iR 74, iI x2, iI x3, none] [] M (fun M' v => Wq 3 0 0 mD_sheet 87 [iR 0, iI 1, iI x2, iI x3] (v.toList ++ []) M' Q)) ∧ (x2 = 0 → Wq 1 0 0 mS_renew 0 [iR 74, iI x2, iI 0, none] [] M (fun M' v => Wq 3 0 0 mD_sheet 87 [iR 0, iI 1, iI x2, iI x3] (v.toList ++ []) M' Q)))) ∧ (¬ x2 = 0 → ((x3 ≤ 24 → ((¬ x2 = 0 → Wq 1 0 0 mS_renew 0 [iR 74, iI x2, iI x3, none] [] M (fun M' v => Wq 3 0 0 mD_sheet 87 [iR 0, iI 1, iI x2, iI x3] (v.toList ++ []) M' Q)) ∧ (x2 = 0 → Wq 1 0 0 mS_renew 0 [iR 74, iI x2, iI 0, none] [] M (fun M' v => Wq 3 0 0 mD_sheet 87 [iR 0, iI 1, iI x2, iI x3] (v.toList ++ []) M' Q)))) ∧ (¬ x3 ≤ 24 → Q (sI M 69 1 (wr (gI M 69 1 + 1))) (some (vI (-1000001)))))))) ∧ (¬ x2 = 0 → ((0 ≤ x3 → ((x2 = 0 → ((¬ x2 = 0 → Wq 1 0 0 mS_renew 0 [iR 74, iI x2, iI x3, none] [] M (fun M' v => Wq 3 0 0 mD_sheet 87 [iR 0, iI 1, iI x2, iI x3] (v.toList ++ []) M' Q)) ∧ (x2 = 0 → Wq 1 0 0 mS_renew 0 [iR 74, iI x2, iI 0, none] [] M (fun M' v => Wq 3 0 0 mD_sheet 87 [iR 0, iI 1, iI x2, iI x3] (v.toList ++ []) M' Q)))) ∧ (¬ x2 = 0 → ((x3 ≤ 24 → ((¬ x2 = 0 → Wq 1 0 0 mS_renew 0 [iR 74, iI x2, iI x3, none] [] M (fun M' v => Wq 3 0 0 mD_sheet 87 [iR 0, iI 1, iI x2, iI x3] (v.toList ++ []) M' Q)) ∧ (x2 = 0 → Wq 1 0 0 mS_renew 0 [iR 74, iI x2, iI 0, none] [] M (fun M' v => Wq 3 0 0 mD_sheet 87 [iR 0, iI 1, iI x2, iI x3] (v.toList ++ []) M' Q)))) ∧ (¬ x3 ≤ 24 → Q (sI M 69 1 (wr (gI M 69 1 + 1))) (some (vI (-1000001)))))))) ∧ (¬ 0 ≤ x3 → Q (sI M 69 3 (wr (gI M 69 3 + 1))) (some (vI (-1000003)))))))) ∧ (¬ x2 = 16 → ((x2 = 32 → ((x2 = 0 → ((x2 = 0 → ((¬ x2 = 0 → Wq 1 0 0 mS_renew 0 [iR 74, iI x2, iI x3, none] [] M (fun M' v => Wq 3 0 0 mD_sheet 87 [iR 0, iI 1, iI x2, iI x3] (v.toList ++ []) M' Q)) ∧ (x2 = 0 → Wq 1 0 0 mS_renew 0 [iR 74, iI x2, iI 0, none] [] M (fun M' v => Wq 3 0 0 mD_sheet 87 [iR 0, iI 1, iI x2, iI x3] (v.toList ++ []) M' Q)))) ∧ (¬ x2 = 0 → ((x3 ≤ 24 → ((¬ x2 = 0 → Wq 1 0 0 mS_renew 0 [iR 74, iI x2, iI x3, none] [] M (fun M' v => Wq 3 0 0 mD_sheet 87 [iR 0, iI 1, iI x2, iI x3] (v.toList ++ []) M' Q)) ∧ (x2 = 0 → Wq 1 0 0 mS_renew 0 [iR 74, iI x2, iI 0, none] [] M (fun M' v => Wq 3 0 0 mD_sheet 87 [iR 0, iI 1, iI x2, iI x3] (v.toList ++ []) M' Q)))) ∧ (¬ x3 ≤ 24 → Q (sI M 69 1 (wr (gI M 69 1 + 1))) (some (vI (-1000001)))))))) ∧ (¬ x2 = 0 → ((0 ≤ x3 → ((x2 = 0 → ((¬ x2 = 0 → Wq 1 0 0 mS_renew 0 [iR 74, iI x2, iI x3, none] [] M (fun M' v => Wq 3 0 0 mD_sheet 87 [iR 0, iI 1, iI x2, iI x3] (v.toList ++ []) M' Q)) ∧ (x2 = 0 → Wq 1 0 0 mS_renew 0 [iR 74, iI x2, iI 0, none] [] M (fun M' v => Wq 3 0 0 mD_sheet 87 [iR 0, iI 1, iI x2, iI x3] (v.toList ++ []) M' Q)))) ∧ (¬ x2 = 0 → ((x3 ≤ 24 → ((¬ x2 = 0 → Wq 1 0 0 mS_renew 0 [iR 74, iI x2, iI x3, none] [] M (fun M' v => Wq 3 0 0 mD_sheet 87 [iR 0, iI 1, iI x2, iI x3] (v.toList ++ []) M' Q)) ∧ (x2 = 0 → Wq 1 0 0 mS_renew 0 [iR 74, iI x2, iI 0, none] [] M (fun M' v => Wq 3 0 0 mD_sheet 87 [iR 0, iI 1, iI x2, iI x3] (v.toList ++ []) M' Q)))) ∧ (¬ x3 ≤ 24 → Q (sI M 69 1 (wr (gI M 69 1 + 1))) (some (vI (-1000001)))))))) ∧ (¬ 0 ≤ x3 → Q (sI M 69 3 (wr (gI M 69 3 + 1))) (some (vI (-1000003)))))))) ∧ (¬ x2 = 32 → Q (sI M 69 1 (wr (gI M 69 1 + 1))) (some (vI (-1000001)))))))))))) ∧ (¬ (0 ≤ (1 : Int) ∧ (1 : Int) ≤ 3) → Q (sI M 69 1 (wr (gI M 69 1 + 1))) (some (vI (-1000001)))))) : Wq 3 0 0 mD_sheet 0 [iR 0, iI 1, iI x2, iI x3] [] M Q := by
  refine wq_iload_n (pc := 0) dD_sheet_0 rfl rfl ?_
  refine wq_callS (d' := 2) (pc := 1) (as := [vI 1]) (rest := []) (lo' := [iI 1]) dD_sheet_1 mO_D_isSheet lS_D_284 rfl rfl rfl rfl rfl rfl ?_
  refine sp_D_isSheet (fun c1 => ?_) (fun c1 => ?_)
  · have H := H.1 c1
    show Wq 3 0 0 mD_sheet 4 [iR 0, iI 1, iI x2, iI x3] [vI 1] M _
    refine wq_if_eq (pc := 4) (tgt := 29) dD_sheet_4 (by decide) (fun q => absurd q (by decide)) (fun _ => ?_)
    refine wq_iload_n (pc := 7) dD_sheet_7 rfl rfl ?_
    refine wq_if_eq (pc := 8) (tgt := 36) dD_sheet_8 (by decide) (fun c2 => ?_) (fun c2 => ?_)
    · have H := H.1 c2
      refine wq_iload_n (pc := 36) dD_sheet_36 rfl rfl ?_
      refine wq_if_eq (pc := 37) (tgt := 51) dD_sheet_37 (by decide) (fun c3 => ?_) (fun c3 => ?_)
      · have H := H.1 c3
        refine wq_iload_n (pc := 51) dD_sheet_51 rfl rfl ?_
        refine wq_if_eq (pc := 52) (tgt := 68) dD_sheet_52 (by decide) (fun c4 => ?_) (fun c4 => ?_)
        · have H := H.1 c4
          refine wq_aload_n (pc := 68) dD_sheet_68 rfl rfl ?_
          refine wq_getR (pc := 69) (z := 5) (b := 68) dD_sheet_69 fO_D_42 sh_0 rfl rfl (rf_0_5 hS) ?_
          refine wq_iload_n (pc := 72) dD_sheet_72 rfl rfl ?_
          refine wq_aald (pc := 73) (b := 74) dD_sheet_73 sh_68 (by decide) (by decide) (rf_68_1 hS) ?_
          refine wq_iload_n (pc := 74) dD_sheet_74 rfl rfl ?_
          refine wq_iload_n (pc := 75) dD_sheet_75 rfl rfl ?_
          refine wq_if_ne (pc := 76) (tgt := 83) dD_sheet_76 (by decide) (fun c5 => ?_) (fun c5 => ?_)
          · have H := H.1 c5
            refine wq_iload_n (pc := 83) dD_sheet_83 rfl rfl ?_
            refine wq_callV (d' := 1) (pc := 84) (as := [vI x2, vI x3]) (rest := []) (lo' := [iR 74, iI x2, iI x3, none]) dD_sheet_84 mO_S_renew lV_D_316 sh_74 (by decide) cl_6 rfl rfl rfl rfl rfl rfl ?_
            exact H
          · have H := H.2 c5
            refine wq_iconst (pc := 79) dD_sheet_79 rfl ?_
            refine wq_goto (pc := 80) (tgt := 84) dD_sheet_80 (by decide) ?_
            refine wq_callV (d' := 1) (pc := 84) (as := [vI x2, vI 0]) (rest := []) (lo' := [iR 74, iI x2, iI 0, none]) dD_sheet_84 mO_S_renew lV_D_316 sh_74 (by decide) cl_6 rfl rfl rfl rfl rfl rfl ?_
            exact H
        · have H := H.2 c4
          refine wq_iload_n (pc := 55) dD_sheet_55 rfl rfl ?_
          refine wq_bipush (pc := 56) dD_sheet_56 rfl ?_
          refine wq_icmp_le (pc := 58) (tgt := 68) dD_sheet_58 (by decide) (fun c6 => ?_) (fun c6 => ?_)
          · have H := H.1 c6
            refine wq_aload_n (pc := 68) dD_sheet_68 rfl rfl ?_
            refine wq_getR (pc := 69) (z := 5) (b := 68) dD_sheet_69 fO_D_42 sh_0 rfl rfl (rf_0_5 hS) ?_
            refine wq_iload_n (pc := 72) dD_sheet_72 rfl rfl ?_
            refine wq_aald (pc := 73) (b := 74) dD_sheet_73 sh_68 (by decide) (by decide) (rf_68_1 hS) ?_
            refine wq_iload_n (pc := 74) dD_sheet_74 rfl rfl ?_
            refine wq_iload_n (pc := 75) dD_sheet_75 rfl rfl ?_
            refine wq_if_ne (pc := 76) (tgt := 83) dD_sheet_76 (by decide) (fun c7 => ?_) (fun c7 => ?_)
            · have H := H.1 c7
              refine wq_iload_n (pc := 83) dD_sheet_83 rfl rfl ?_
              refine wq_callV (d' := 1) (pc := 84) (as := [vI x2, vI x3]) (rest := []) (lo' := [iR 74, iI x2, iI x3, none]) dD_sheet_84 mO_S_renew lV_D_316 sh_74 (by decide) cl_6 rfl rfl rfl rfl rfl rfl ?_
              exact H
            · have H := H.2 c7
              refine wq_iconst (pc := 79) dD_sheet_79 rfl ?_
              refine wq_goto (pc := 80) (tgt := 84) dD_sheet_80 (by decide) ?_
              refine wq_callV (d' := 1) (pc := 84) (as := [vI x2, vI 0]) (rest := []) (lo' := [iR 74, iI x2, iI 0, none]) dD_sheet_84 mO_S_renew lV_D_316 sh_74 (by decide) cl_6 rfl rfl rfl rfl rfl rfl ?_
              exact H
          · have H := H.2 c6
            refine wq_aload_n (pc := 61) dD_sheet_61 rfl rfl ?_
            refine wq_ldc (pc := 62) (z := (-1000001)) dD_sheet_62 kO_D_69 (by decide) ?_
            refine wq_callV (d' := 2) (pc := 64) (as := [vI (-1000001)]) (rest := []) (lo' := [iR 0, iI ((-1000001)), none]) dD_sheet_64 mO_D_finding lV_D_70 sh_0 (by decide) cl_10 rfl rfl rfl rfl rfl rfl ?_
            refine sp_D_finding (k := 1) (by decide) (by decide) (by decide) hS ?_
            show Wq 3 0 0 mD_sheet 67 [iR 0, iI 1, iI x2, iI x3] [vI (-1000001)] (sI M 69 1 (wr (gI M 69 1 + 1))) _
            refine wq_ireturn (pc := 67) dD_sheet_67 trivial ?_
            exact H
      · have H := H.2 c3
        refine wq_iload_n (pc := 40) dD_sheet_40 rfl rfl ?_
        refine wq_if_ge (pc := 41) (tgt := 51) dD_sheet_41 (by decide) (fun c8 => ?_) (fun c8 => ?_)
        · have H := H.1 c8
          refine wq_iload_n (pc := 51) dD_sheet_51 rfl rfl ?_
          refine wq_if_eq (pc := 52) (tgt := 68) dD_sheet_52 (by decide) (fun c9 => ?_) (fun c9 => ?_)
          · have H := H.1 c9
            refine wq_aload_n (pc := 68) dD_sheet_68 rfl rfl ?_
            refine wq_getR (pc := 69) (z := 5) (b := 68) dD_sheet_69 fO_D_42 sh_0 rfl rfl (rf_0_5 hS) ?_
            refine wq_iload_n (pc := 72) dD_sheet_72 rfl rfl ?_
            refine wq_aald (pc := 73) (b := 74) dD_sheet_73 sh_68 (by decide) (by decide) (rf_68_1 hS) ?_
            refine wq_iload_n (pc := 74) dD_sheet_74 rfl rfl ?_
            refine wq_iload_n (pc := 75) dD_sheet_75 rfl rfl ?_
            refine wq_if_ne (pc := 76) (tgt := 83) dD_sheet_76 (by decide) (fun c10 => ?_) (fun c10 => ?_)
            · have H := H.1 c10
              refine wq_iload_n (pc := 83) dD_sheet_83 rfl rfl ?_
              refine wq_callV (d' := 1) (pc := 84) (as := [vI x2, vI x3]) (rest := []) (lo' := [iR 74, iI x2, iI x3, none]) dD_sheet_84 mO_S_renew lV_D_316 sh_74 (by decide) cl_6 rfl rfl rfl rfl rfl rfl ?_
              exact H
            · have H := H.2 c10
              refine wq_iconst (pc := 79) dD_sheet_79 rfl ?_
              refine wq_goto (pc := 80) (tgt := 84) dD_sheet_80 (by decide) ?_
              refine wq_callV (d' := 1) (pc := 84) (as := [vI x2, vI 0]) (rest := []) (lo' := [iR 74, iI x2, iI 0, none]) dD_sheet_84 mO_S_renew lV_D_316 sh_74 (by decide) cl_6 rfl rfl rfl rfl rfl rfl ?_
              exact H
          · have H := H.2 c9
            refine wq_iload_n (pc := 55) dD_sheet_55 rfl rfl ?_
            refine wq_bipush (pc := 56) dD_sheet_56 rfl ?_
            refine wq_icmp_le (pc := 58) (tgt := 68) dD_sheet_58 (by decide) (fun c11 => ?_) (fun c11 => ?_)
            · have H := H.1 c11
              refine wq_aload_n (pc := 68) dD_sheet_68 rfl rfl ?_
              refine wq_getR (pc := 69) (z := 5) (b := 68) dD_sheet_69 fO_D_42 sh_0 rfl rfl (rf_0_5 hS) ?_
              refine wq_iload_n (pc := 72) dD_sheet_72 rfl rfl ?_
              refine wq_aald (pc := 73) (b := 74) dD_sheet_73 sh_68 (by decide) (by decide) (rf_68_1 hS) ?_
              refine wq_iload_n (pc := 74) dD_sheet_74 rfl rfl ?_
              refine wq_iload_n (pc := 75) dD_sheet_75 rfl rfl ?_
              refine wq_if_ne (pc := 76) (tgt := 83) dD_sheet_76 (by decide) (fun c12 => ?_) (fun c12 => ?_)
              · have H := H.1 c12
                refine wq_iload_n (pc := 83) dD_sheet_83 rfl rfl ?_
                refine wq_callV (d' := 1) (pc := 84) (as := [vI x2, vI x3]) (rest := []) (lo' := [iR 74, iI x2, iI x3, none]) dD_sheet_84 mO_S_renew lV_D_316 sh_74 (by decide) cl_6 rfl rfl rfl rfl rfl rfl ?_
                exact H
              · have H := H.2 c12
                refine wq_iconst (pc := 79) dD_sheet_79 rfl ?_
                refine wq_goto (pc := 80) (tgt := 84) dD_sheet_80 (by decide) ?_
                refine wq_callV (d' := 1) (pc := 84) (as := [vI x2, vI 0]) (rest := []) (lo' := [iR 74, iI x2, iI 0, none]) dD_sheet_84 mO_S_renew lV_D_316 sh_74 (by decide) cl_6 rfl rfl rfl rfl rfl rfl ?_
                exact H
            · have H := H.2 c11
              refine wq_aload_n (pc := 61) dD_sheet_61 rfl rfl ?_
              refine wq_ldc (pc := 62) (z := (-1000001)) dD_sheet_62 kO_D_69 (by decide) ?_
              refine wq_callV (d' := 2) (pc := 64) (as := [vI (-1000001)]) (rest := []) (lo' := [iR 0, iI ((-1000001)), none]) dD_sheet_64 mO_D_finding lV_D_70 sh_0 (by decide) cl_10 rfl rfl rfl rfl rfl rfl ?_
              refine sp_D_finding (k := 1) (by decide) (by decide) (by decide) hS ?_
              show Wq 3 0 0 mD_sheet 67 [iR 0, iI 1, iI x2, iI x3] [vI (-1000001)] (sI M 69 1 (wr (gI M 69 1 + 1))) _
              refine wq_ireturn (pc := 67) dD_sheet_67 trivial ?_
              exact H
        · have H := H.2 c8
          refine wq_aload_n (pc := 44) dD_sheet_44 rfl rfl ?_
          refine wq_ldc (pc := 45) (z := (-1000003)) dD_sheet_45 kO_D_111 (by decide) ?_
          refine wq_callV (d' := 2) (pc := 47) (as := [vI (-1000003)]) (rest := []) (lo' := [iR 0, iI ((-1000003)), none]) dD_sheet_47 mO_D_finding lV_D_70 sh_0 (by decide) cl_10 rfl rfl rfl rfl rfl rfl ?_
          refine sp_D_finding (k := 3) (by decide) (by decide) (by decide) hS ?_
          show Wq 3 0 0 mD_sheet 50 [iR 0, iI 1, iI x2, iI x3] [vI (-1000003)] (sI M 69 3 (wr (gI M 69 3 + 1))) _
          refine wq_ireturn (pc := 50) dD_sheet_50 trivial ?_
          exact H
    · have H := H.2 c2
      refine wq_iload_n (pc := 11) dD_sheet_11 rfl rfl ?_
      refine wq_bipush (pc := 12) dD_sheet_12 rfl ?_
      refine wq_icmp_eq (pc := 14) (tgt := 36) dD_sheet_14 (by decide) (fun c13 => ?_) (fun c13 => ?_)
      · have H := H.1 c13
        refine wq_iload_n (pc := 36) dD_sheet_36 rfl rfl ?_
        refine wq_if_eq (pc := 37) (tgt := 51) dD_sheet_37 (by decide) (fun c14 => ?_) (fun c14 => ?_)
        · have H := H.1 c14
          refine wq_iload_n (pc := 51) dD_sheet_51 rfl rfl ?_
          refine wq_if_eq (pc := 52) (tgt := 68) dD_sheet_52 (by decide) (fun c15 => ?_) (fun c15 => ?_)
          · have H := H.1 c15
            refine wq_aload_n (pc := 68) dD_sheet_68 rfl rfl ?_
            refine wq_getR (pc := 69) (z := 5) (b := 68) dD_sheet_69 fO_D_42 sh_0 rfl rfl (rf_0_5 hS) ?_
            refine wq_iload_n (pc := 72) dD_sheet_72 rfl rfl ?_
            refine wq_aald (pc := 73) (b := 74) dD_sheet_73 sh_68 (by decide) (by decide) (rf_68_1 hS) ?_
            refine wq_iload_n (pc := 74) dD_sheet_74 rfl rfl ?_
            refine wq_iload_n (pc := 75) dD_sheet_75 rfl rfl ?_
            refine wq_if_ne (pc := 76) (tgt := 83) dD_sheet_76 (by decide) (fun c16 => ?_) (fun c16 => ?_)
            · have H := H.1 c16
              refine wq_iload_n (pc := 83) dD_sheet_83 rfl rfl ?_
              refine wq_callV (d' := 1) (pc := 84) (as := [vI x2, vI x3]) (rest := []) (lo' := [iR 74, iI x2, iI x3, none]) dD_sheet_84 mO_S_renew lV_D_316 sh_74 (by decide) cl_6 rfl rfl rfl rfl rfl rfl ?_
              exact H
            · have H := H.2 c16
              refine wq_iconst (pc := 79) dD_sheet_79 rfl ?_
              refine wq_goto (pc := 80) (tgt := 84) dD_sheet_80 (by decide) ?_
              refine wq_callV (d' := 1) (pc := 84) (as := [vI x2, vI 0]) (rest := []) (lo' := [iR 74, iI x2, iI 0, none]) dD_sheet_84 mO_S_renew lV_D_316 sh_74 (by decide) cl_6 rfl rfl rfl rfl rfl rfl ?_
              exact H
          · have H := H.2 c15
            refine wq_iload_n (pc := 55) dD_sheet_55 rfl rfl ?_
            refine wq_bipush (pc := 56) dD_sheet_56 rfl ?_
            refine wq_icmp_le (pc := 58) (tgt := 68) dD_sheet_58 (by decide) (fun c17 => ?_) (fun c17 => ?_)
            · have H := H.1 c17
              refine wq_aload_n (pc := 68) dD_sheet_68 rfl rfl ?_
              refine wq_getR (pc := 69) (z := 5) (b := 68) dD_sheet_69 fO_D_42 sh_0 rfl rfl (rf_0_5 hS) ?_
              refine wq_iload_n (pc := 72) dD_sheet_72 rfl rfl ?_
              refine wq_aald (pc := 73) (b := 74) dD_sheet_73 sh_68 (by decide) (by decide) (rf_68_1 hS) ?_
              refine wq_iload_n (pc := 74) dD_sheet_74 rfl rfl ?_
              refine wq_iload_n (pc := 75) dD_sheet_75 rfl rfl ?_
              refine wq_if_ne (pc := 76) (tgt := 83) dD_sheet_76 (by decide) (fun c18 => ?_) (fun c18 => ?_)
              · have H := H.1 c18
                refine wq_iload_n (pc := 83) dD_sheet_83 rfl rfl ?_
                refine wq_callV (d' := 1) (pc := 84) (as := [vI x2, vI x3]) (rest := []) (lo' := [iR 74, iI x2, iI x3, none]) dD_sheet_84 mO_S_renew lV_D_316 sh_74 (by decide) cl_6 rfl rfl rfl rfl rfl rfl ?_
                exact H
              · have H := H.2 c18
                refine wq_iconst (pc := 79) dD_sheet_79 rfl ?_
                refine wq_goto (pc := 80) (tgt := 84) dD_sheet_80 (by decide) ?_
                refine wq_callV (d' := 1) (pc := 84) (as := [vI x2, vI 0]) (rest := []) (lo' := [iR 74, iI x2, iI 0, none]) dD_sheet_84 mO_S_renew lV_D_316 sh_74 (by decide) cl_6 rfl rfl rfl rfl rfl rfl ?_
                exact H
            · have H := H.2 c17
              refine wq_aload_n (pc := 61) dD_sheet_61 rfl rfl ?_
              refine wq_ldc (pc := 62) (z := (-1000001)) dD_sheet_62 kO_D_69 (by decide) ?_
              refine wq_callV (d' := 2) (pc := 64) (as := [vI (-1000001)]) (rest := []) (lo' := [iR 0, iI ((-1000001)), none]) dD_sheet_64 mO_D_finding lV_D_70 sh_0 (by decide) cl_10 rfl rfl rfl rfl rfl rfl ?_
              refine sp_D_finding (k := 1) (by decide) (by decide) (by decide) hS ?_
              show Wq 3 0 0 mD_sheet 67 [iR 0, iI 1, iI x2, iI x3] [vI (-1000001)] (sI M 69 1 (wr (gI M 69 1 + 1))) _
              refine wq_ireturn (pc := 67) dD_sheet_67 trivial ?_
              exact H
        · have H := H.2 c14
          refine wq_iload_n (pc := 40) dD_sheet_40 rfl rfl ?_
          refine wq_if_ge (pc := 41) (tgt := 51) dD_sheet_41 (by decide) (fun c19 => ?_) (fun c19 => ?_)
          · have H := H.1 c19
            refine wq_iload_n (pc := 51) dD_sheet_51 rfl rfl ?_
            refine wq_if_eq (pc := 52) (tgt := 68) dD_sheet_52 (by decide) (fun c20 => ?_) (fun c20 => ?_)
            · have H := H.1 c20
              refine wq_aload_n (pc := 68) dD_sheet_68 rfl rfl ?_
              refine wq_getR (pc := 69) (z := 5) (b := 68) dD_sheet_69 fO_D_42 sh_0 rfl rfl (rf_0_5 hS) ?_
              refine wq_iload_n (pc := 72) dD_sheet_72 rfl rfl ?_
              refine wq_aald (pc := 73) (b := 74) dD_sheet_73 sh_68 (by decide) (by decide) (rf_68_1 hS) ?_
              refine wq_iload_n (pc := 74) dD_sheet_74 rfl rfl ?_
              refine wq_iload_n (pc := 75) dD_sheet_75 rfl rfl ?_
              refine wq_if_ne (pc := 76) (tgt := 83) dD_sheet_76 (by decide) (fun c21 => ?_) (fun c21 => ?_)
              · have H := H.1 c21
                refine wq_iload_n (pc := 83) dD_sheet_83 rfl rfl ?_
                refine wq_callV (d' := 1) (pc := 84) (as := [vI x2, vI x3]) (rest := []) (lo' := [iR 74, iI x2, iI x3, none]) dD_sheet_84 mO_S_renew lV_D_316 sh_74 (by decide) cl_6 rfl rfl rfl rfl rfl rfl ?_
                exact H
              · have H := H.2 c21
                refine wq_iconst (pc := 79) dD_sheet_79 rfl ?_
                refine wq_goto (pc := 80) (tgt := 84) dD_sheet_80 (by decide) ?_
                refine wq_callV (d' := 1) (pc := 84) (as := [vI x2, vI 0]) (rest := []) (lo' := [iR 74, iI x2, iI 0, none]) dD_sheet_84 mO_S_renew lV_D_316 sh_74 (by decide) cl_6 rfl rfl rfl rfl rfl rfl ?_
                exact H
            · have H := H.2 c20
              refine wq_iload_n (pc := 55) dD_sheet_55 rfl rfl ?_
              refine wq_bipush (pc := 56) dD_sheet_56 rfl ?_
              refine wq_icmp_le (pc := 58) (tgt := 68) dD_sheet_58 (by decide) (fun c22 => ?_) (fun c22 => ?_)
              · have H := H.1 c22
                refine wq_aload_n (pc := 68) dD_sheet_68 rfl rfl ?_
                refine wq_getR (pc := 69) (z := 5) (b := 68) dD_sheet_69 fO_D_42 sh_0 rfl rfl (rf_0_5 hS) ?_
                refine wq_iload_n (pc := 72) dD_sheet_72 rfl rfl ?_
                refine wq_aald (pc := 73) (b := 74) dD_sheet_73 sh_68 (by decide) (by decide) (rf_68_1 hS) ?_
                refine wq_iload_n (pc := 74) dD_sheet_74 rfl rfl ?_
                refine wq_iload_n (pc := 75) dD_sheet_75 rfl rfl ?_
                refine wq_if_ne (pc := 76) (tgt := 83) dD_sheet_76 (by decide) (fun c23 => ?_) (fun c23 => ?_)
                · have H := H.1 c23
                  refine wq_iload_n (pc := 83) dD_sheet_83 rfl rfl ?_
                  refine wq_callV (d' := 1) (pc := 84) (as := [vI x2, vI x3]) (rest := []) (lo' := [iR 74, iI x2, iI x3, none]) dD_sheet_84 mO_S_renew lV_D_316 sh_74 (by decide) cl_6 rfl rfl rfl rfl rfl rfl ?_
                  exact H
                · have H := H.2 c23
                  refine wq_iconst (pc := 79) dD_sheet_79 rfl ?_
                  refine wq_goto (pc := 80) (tgt := 84) dD_sheet_80 (by decide) ?_
                  refine wq_callV (d' := 1) (pc := 84) (as := [vI x2, vI 0]) (rest := []) (lo' := [iR 74, iI x2, iI 0, none]) dD_sheet_84 mO_S_renew lV_D_316 sh_74 (by decide) cl_6 rfl rfl rfl rfl rfl rfl ?_
                  exact H
              · have H := H.2 c22
                refine wq_aload_n (pc := 61) dD_sheet_61 rfl rfl ?_
                refine wq_ldc (pc := 62) (z := (-1000001)) dD_sheet_62 kO_D_69 (by decide) ?_
                refine wq_callV (d' := 2) (pc := 64) (as := [vI (-1000001)]) (rest := []) (lo' := [iR 0, iI ((-1000001)), none]) dD_sheet_64 mO_D_finding lV_D_70 sh_0 (by decide) cl_10 rfl rfl rfl rfl rfl rfl ?_
                refine sp_D_finding (k := 1) (by decide) (by decide) (by decide) hS ?_
                show Wq 3 0 0 mD_sheet 67 [iR 0, iI 1, iI x2, iI x3] [vI (-1000001)] (sI M 69 1 (wr (gI M 69 1 + 1))) _
                refine wq_ireturn (pc := 67) dD_sheet_67 trivial ?_
                exact H
          · have H := H.2 c19
            refine wq_aload_n (pc := 44) dD_sheet_44 rfl rfl ?_
            refine wq_ldc (pc := 45) (z := (-1000003)) dD_sheet_45 kO_D_111 (by decide) ?_
            refine wq_callV (d' := 2) (pc := 47) (as := [vI (-1000003)]) (rest := []) (lo' := [iR 0, iI ((-1000003)), none]) dD_sheet_47 mO_D_finding lV_D_70 sh_0 (by decide) cl_10 rfl rfl rfl rfl rfl rfl ?_
            refine sp_D_finding (k := 3) (by decide) (by decide) (by decide) hS ?_
            show Wq 3 0 0 mD_sheet 50 [iR 0, iI 1, iI x2, iI x3] [vI (-1000003)] (sI M 69 3 (wr (gI M 69 3 + 1))) _
            refine wq_ireturn (pc := 50) dD_sheet_50 trivial ?_
            exact H
      · have H := H.2 c13
        refine wq_iload_n (pc := 17) dD_sheet_17 rfl rfl ?_
        refine wq_bipush (pc := 18) dD_sheet_18 rfl ?_
        refine wq_icmp_eq (pc := 20) (tgt := 36) dD_sheet_20 (by decide) (fun c24 => ?_) (fun c24 => ?_)
        · have H := H.1 c24
          refine wq_iload_n (pc := 36) dD_sheet_36 rfl rfl ?_
          refine wq_if_eq (pc := 37) (tgt := 51) dD_sheet_37 (by decide) (fun c25 => ?_) (fun c25 => ?_)
          · have H := H.1 c25
            refine wq_iload_n (pc := 51) dD_sheet_51 rfl rfl ?_
            refine wq_if_eq (pc := 52) (tgt := 68) dD_sheet_52 (by decide) (fun c26 => ?_) (fun c26 => ?_)
            · have H := H.1 c26
              refine wq_aload_n (pc := 68) dD_sheet_68 rfl rfl ?_
              refine wq_getR (pc := 69) (z := 5) (b := 68) dD_sheet_69 fO_D_42 sh_0 rfl rfl (rf_0_5 hS) ?_
              refine wq_iload_n (pc := 72) dD_sheet_72 rfl rfl ?_
              refine wq_aald (pc := 73) (b := 74) dD_sheet_73 sh_68 (by decide) (by decide) (rf_68_1 hS) ?_
              refine wq_iload_n (pc := 74) dD_sheet_74 rfl rfl ?_
              refine wq_iload_n (pc := 75) dD_sheet_75 rfl rfl ?_
              refine wq_if_ne (pc := 76) (tgt := 83) dD_sheet_76 (by decide) (fun c27 => ?_) (fun c27 => ?_)
              · have H := H.1 c27
                refine wq_iload_n (pc := 83) dD_sheet_83 rfl rfl ?_
                refine wq_callV (d' := 1) (pc := 84) (as := [vI x2, vI x3]) (rest := []) (lo' := [iR 74, iI x2, iI x3, none]) dD_sheet_84 mO_S_renew lV_D_316 sh_74 (by decide) cl_6 rfl rfl rfl rfl rfl rfl ?_
                exact H
              · have H := H.2 c27
                refine wq_iconst (pc := 79) dD_sheet_79 rfl ?_
                refine wq_goto (pc := 80) (tgt := 84) dD_sheet_80 (by decide) ?_
                refine wq_callV (d' := 1) (pc := 84) (as := [vI x2, vI 0]) (rest := []) (lo' := [iR 74, iI x2, iI 0, none]) dD_sheet_84 mO_S_renew lV_D_316 sh_74 (by decide) cl_6 rfl rfl rfl rfl rfl rfl ?_
                exact H
            · have H := H.2 c26
              refine wq_iload_n (pc := 55) dD_sheet_55 rfl rfl ?_
              refine wq_bipush (pc := 56) dD_sheet_56 rfl ?_
              refine wq_icmp_le (pc := 58) (tgt := 68) dD_sheet_58 (by decide) (fun c28 => ?_) (fun c28 => ?_)
              · have H := H.1 c28
                refine wq_aload_n (pc := 68) dD_sheet_68 rfl rfl ?_
                refine wq_getR (pc := 69) (z := 5) (b := 68) dD_sheet_69 fO_D_42 sh_0 rfl rfl (rf_0_5 hS) ?_
                refine wq_iload_n (pc := 72) dD_sheet_72 rfl rfl ?_
                refine wq_aald (pc := 73) (b := 74) dD_sheet_73 sh_68 (by decide) (by decide) (rf_68_1 hS) ?_
                refine wq_iload_n (pc := 74) dD_sheet_74 rfl rfl ?_
                refine wq_iload_n (pc := 75) dD_sheet_75 rfl rfl ?_
                refine wq_if_ne (pc := 76) (tgt := 83) dD_sheet_76 (by decide) (fun c29 => ?_) (fun c29 => ?_)
                · have H := H.1 c29
                  refine wq_iload_n (pc := 83) dD_sheet_83 rfl rfl ?_
                  refine wq_callV (d' := 1) (pc := 84) (as := [vI x2, vI x3]) (rest := []) (lo' := [iR 74, iI x2, iI x3, none]) dD_sheet_84 mO_S_renew lV_D_316 sh_74 (by decide) cl_6 rfl rfl rfl rfl rfl rfl ?_
                  exact H
                · have H := H.2 c29
                  refine wq_iconst (pc := 79) dD_sheet_79 rfl ?_
                  refine wq_goto (pc := 80) (tgt := 84) dD_sheet_80 (by decide) ?_
                  refine wq_callV (d' := 1) (pc := 84) (as := [vI x2, vI 0]) (rest := []) (lo' := [iR 74, iI x2, iI 0, none]) dD_sheet_84 mO_S_renew lV_D_316 sh_74 (by decide) cl_6 rfl rfl rfl rfl rfl rfl ?_
                  exact H
              · have H := H.2 c28
                refine wq_aload_n (pc := 61) dD_sheet_61 rfl rfl ?_
                refine wq_ldc (pc := 62) (z := (-1000001)) dD_sheet_62 kO_D_69 (by decide) ?_
                refine wq_callV (d' := 2) (pc := 64) (as := [vI (-1000001)]) (rest := []) (lo' := [iR 0, iI ((-1000001)), none]) dD_sheet_64 mO_D_finding lV_D_70 sh_0 (by decide) cl_10 rfl rfl rfl rfl rfl rfl ?_
                refine sp_D_finding (k := 1) (by decide) (by decide) (by decide) hS ?_
                show Wq 3 0 0 mD_sheet 67 [iR 0, iI 1, iI x2, iI x3] [vI (-1000001)] (sI M 69 1 (wr (gI M 69 1 + 1))) _
                refine wq_ireturn (pc := 67) dD_sheet_67 trivial ?_
                exact H
          · have H := H.2 c25
            refine wq_iload_n (pc := 40) dD_sheet_40 rfl rfl ?_
            refine wq_if_ge (pc := 41) (tgt := 51) dD_sheet_41 (by decide) (fun c30 => ?_) (fun c30 => ?_)
            · have H := H.1 c30
              refine wq_iload_n (pc := 51) dD_sheet_51 rfl rfl ?_
              refine wq_if_eq (pc := 52) (tgt := 68) dD_sheet_52 (by decide) (fun c31 => ?_) (fun c31 => ?_)
              · have H := H.1 c31
                refine wq_aload_n (pc := 68) dD_sheet_68 rfl rfl ?_
                refine wq_getR (pc := 69) (z := 5) (b := 68) dD_sheet_69 fO_D_42 sh_0 rfl rfl (rf_0_5 hS) ?_
                refine wq_iload_n (pc := 72) dD_sheet_72 rfl rfl ?_
                refine wq_aald (pc := 73) (b := 74) dD_sheet_73 sh_68 (by decide) (by decide) (rf_68_1 hS) ?_
                refine wq_iload_n (pc := 74) dD_sheet_74 rfl rfl ?_
                refine wq_iload_n (pc := 75) dD_sheet_75 rfl rfl ?_
                refine wq_if_ne (pc := 76) (tgt := 83) dD_sheet_76 (by decide) (fun c32 => ?_) (fun c32 => ?_)
                · have H := H.1 c32
                  refine wq_iload_n (pc := 83) dD_sheet_83 rfl rfl ?_
                  refine wq_callV (d' := 1) (pc := 84) (as := [vI x2, vI x3]) (rest := []) (lo' := [iR 74, iI x2, iI x3, none]) dD_sheet_84 mO_S_renew lV_D_316 sh_74 (by decide) cl_6 rfl rfl rfl rfl rfl rfl ?_
                  exact H
                · have H := H.2 c32
                  refine wq_iconst (pc := 79) dD_sheet_79 rfl ?_
                  refine wq_goto (pc := 80) (tgt := 84) dD_sheet_80 (by decide) ?_
                  refine wq_callV (d' := 1) (pc := 84) (as := [vI x2, vI 0]) (rest := []) (lo' := [iR 74, iI x2, iI 0, none]) dD_sheet_84 mO_S_renew lV_D_316 sh_74 (by decide) cl_6 rfl rfl rfl rfl rfl rfl ?_
                  exact H
              · have H := H.2 c31
                refine wq_iload_n (pc := 55) dD_sheet_55 rfl rfl ?_
                refine wq_bipush (pc := 56) dD_sheet_56 rfl ?_
                refine wq_icmp_le (pc := 58) (tgt := 68) dD_sheet_58 (by decide) (fun c33 => ?_) (fun c33 => ?_)
                · have H := H.1 c33
                  refine wq_aload_n (pc := 68) dD_sheet_68 rfl rfl ?_
                  refine wq_getR (pc := 69) (z := 5) (b := 68) dD_sheet_69 fO_D_42 sh_0 rfl rfl (rf_0_5 hS) ?_
                  refine wq_iload_n (pc := 72) dD_sheet_72 rfl rfl ?_
                  refine wq_aald (pc := 73) (b := 74) dD_sheet_73 sh_68 (by decide) (by decide) (rf_68_1 hS) ?_
                  refine wq_iload_n (pc := 74) dD_sheet_74 rfl rfl ?_
                  refine wq_iload_n (pc := 75) dD_sheet_75 rfl rfl ?_
                  refine wq_if_ne (pc := 76) (tgt := 83) dD_sheet_76 (by decide) (fun c34 => ?_) (fun c34 => ?_)
                  · have H := H.1 c34
                    refine wq_iload_n (pc := 83) dD_sheet_83 rfl rfl ?_
                    refine wq_callV (d' := 1) (pc := 84) (as := [vI x2, vI x3]) (rest := []) (lo' := [iR 74, iI x2, iI x3, none]) dD_sheet_84 mO_S_renew lV_D_316 sh_74 (by decide) cl_6 rfl rfl rfl rfl rfl rfl ?_
                    exact H
                  · have H := H.2 c34
                    refine wq_iconst (pc := 79) dD_sheet_79 rfl ?_
                    refine wq_goto (pc := 80) (tgt := 84) dD_sheet_80 (by decide) ?_
                    refine wq_callV (d' := 1) (pc := 84) (as := [vI x2, vI 0]) (rest := []) (lo' := [iR 74, iI x2, iI 0, none]) dD_sheet_84 mO_S_renew lV_D_316 sh_74 (by decide) cl_6 rfl rfl rfl rfl rfl rfl ?_
                    exact H
                · have H := H.2 c33
                  refine wq_aload_n (pc := 61) dD_sheet_61 rfl rfl ?_
                  refine wq_ldc (pc := 62) (z := (-1000001)) dD_sheet_62 kO_D_69 (by decide) ?_
                  refine wq_callV (d' := 2) (pc := 64) (as := [vI (-1000001)]) (rest := []) (lo' := [iR 0, iI ((-1000001)), none]) dD_sheet_64 mO_D_finding lV_D_70 sh_0 (by decide) cl_10 rfl rfl rfl rfl rfl rfl ?_
                  refine sp_D_finding (k := 1) (by decide) (by decide) (by decide) hS ?_
                  show Wq 3 0 0 mD_sheet 67 [iR 0, iI 1, iI x2, iI x3] [vI (-1000001)] (sI M 69 1 (wr (gI M 69 1 + 1))) _
                  refine wq_ireturn (pc := 67) dD_sheet_67 trivial ?_
                  exact H
            · have H := H.2 c30
              refine wq_aload_n (pc := 44) dD_sheet_44 rfl rfl ?_
              refine wq_ldc (pc := 45) (z := (-1000003)) dD_sheet_45 kO_D_111 (by decide) ?_
              refine wq_callV (d' := 2) (pc := 47) (as := [vI (-1000003)]) (rest := []) (lo' := [iR 0, iI ((-1000003)), none]) dD_sheet_47 mO_D_finding lV_D_70 sh_0 (by decide) cl_10 rfl rfl rfl rfl rfl rfl ?_
              refine sp_D_finding (k := 3) (by decide) (by decide) (by decide) hS ?_
              show Wq 3 0 0 mD_sheet 50 [iR 0, iI 1, iI x2, iI x3] [vI (-1000003)] (sI M 69 3 (wr (gI M 69 3 + 1))) _
              refine wq_ireturn (pc := 50) dD_sheet_50 trivial ?_
              exact H
        · have H := H.2 c24
          refine wq_iload_n (pc := 23) dD_sheet_23 rfl rfl ?_
          refine wq_bipush (pc := 24) dD_sheet_24 rfl ?_
          refine wq_icmp_eq (pc := 26) (tgt := 36) dD_sheet_26 (by decide) (fun c35 => ?_) (fun c35 => ?_)
          · have H := H.1 c35
            refine wq_iload_n (pc := 36) dD_sheet_36 rfl rfl ?_
            refine wq_if_eq (pc := 37) (tgt := 51) dD_sheet_37 (by decide) (fun c36 => ?_) (fun c36 => ?_)
            · have H := H.1 c36
              refine wq_iload_n (pc := 51) dD_sheet_51 rfl rfl ?_
              refine wq_if_eq (pc := 52) (tgt := 68) dD_sheet_52 (by decide) (fun c37 => ?_) (fun c37 => ?_)
              · have H := H.1 c37
                refine wq_aload_n (pc := 68) dD_sheet_68 rfl rfl ?_
                refine wq_getR (pc := 69) (z := 5) (b := 68) dD_sheet_69 fO_D_42 sh_0 rfl rfl (rf_0_5 hS) ?_
                refine wq_iload_n (pc := 72) dD_sheet_72 rfl rfl ?_
                refine wq_aald (pc := 73) (b := 74) dD_sheet_73 sh_68 (by decide) (by decide) (rf_68_1 hS) ?_
                refine wq_iload_n (pc := 74) dD_sheet_74 rfl rfl ?_
                refine wq_iload_n (pc := 75) dD_sheet_75 rfl rfl ?_
                refine wq_if_ne (pc := 76) (tgt := 83) dD_sheet_76 (by decide) (fun c38 => ?_) (fun c38 => ?_)
                · have H := H.1 c38
                  refine wq_iload_n (pc := 83) dD_sheet_83 rfl rfl ?_
                  refine wq_callV (d' := 1) (pc := 84) (as := [vI x2, vI x3]) (rest := []) (lo' := [iR 74, iI x2, iI x3, none]) dD_sheet_84 mO_S_renew lV_D_316 sh_74 (by decide) cl_6 rfl rfl rfl rfl rfl rfl ?_
                  exact H
                · have H := H.2 c38
                  refine wq_iconst (pc := 79) dD_sheet_79 rfl ?_
                  refine wq_goto (pc := 80) (tgt := 84) dD_sheet_80 (by decide) ?_
                  refine wq_callV (d' := 1) (pc := 84) (as := [vI x2, vI 0]) (rest := []) (lo' := [iR 74, iI x2, iI 0, none]) dD_sheet_84 mO_S_renew lV_D_316 sh_74 (by decide) cl_6 rfl rfl rfl rfl rfl rfl ?_
                  exact H
              · have H := H.2 c37
                refine wq_iload_n (pc := 55) dD_sheet_55 rfl rfl ?_
                refine wq_bipush (pc := 56) dD_sheet_56 rfl ?_
                refine wq_icmp_le (pc := 58) (tgt := 68) dD_sheet_58 (by decide) (fun c39 => ?_) (fun c39 => ?_)
                · have H := H.1 c39
                  refine wq_aload_n (pc := 68) dD_sheet_68 rfl rfl ?_
                  refine wq_getR (pc := 69) (z := 5) (b := 68) dD_sheet_69 fO_D_42 sh_0 rfl rfl (rf_0_5 hS) ?_
                  refine wq_iload_n (pc := 72) dD_sheet_72 rfl rfl ?_
                  refine wq_aald (pc := 73) (b := 74) dD_sheet_73 sh_68 (by decide) (by decide) (rf_68_1 hS) ?_
                  refine wq_iload_n (pc := 74) dD_sheet_74 rfl rfl ?_
                  refine wq_iload_n (pc := 75) dD_sheet_75 rfl rfl ?_
                  refine wq_if_ne (pc := 76) (tgt := 83) dD_sheet_76 (by decide) (fun c40 => ?_) (fun c40 => ?_)
                  · have H := H.1 c40
                    refine wq_iload_n (pc := 83) dD_sheet_83 rfl rfl ?_
                    refine wq_callV (d' := 1) (pc := 84) (as := [vI x2, vI x3]) (rest := []) (lo' := [iR 74, iI x2, iI x3, none]) dD_sheet_84 mO_S_renew lV_D_316 sh_74 (by decide) cl_6 rfl rfl rfl rfl rfl rfl ?_
                    exact H
                  · have H := H.2 c40
                    refine wq_iconst (pc := 79) dD_sheet_79 rfl ?_
                    refine wq_goto (pc := 80) (tgt := 84) dD_sheet_80 (by decide) ?_
                    refine wq_callV (d' := 1) (pc := 84) (as := [vI x2, vI 0]) (rest := []) (lo' := [iR 74, iI x2, iI 0, none]) dD_sheet_84 mO_S_renew lV_D_316 sh_74 (by decide) cl_6 rfl rfl rfl rfl rfl rfl ?_
                    exact H
                · have H := H.2 c39
                  refine wq_aload_n (pc := 61) dD_sheet_61 rfl rfl ?_
                  refine wq_ldc (pc := 62) (z := (-1000001)) dD_sheet_62 kO_D_69 (by decide) ?_
                  refine wq_callV (d' := 2) (pc := 64) (as := [vI (-1000001)]) (rest := []) (lo' := [iR 0, iI ((-1000001)), none]) dD_sheet_64 mO_D_finding lV_D_70 sh_0 (by decide) cl_10 rfl rfl rfl rfl rfl rfl ?_
                  refine sp_D_finding (k := 1) (by decide) (by decide) (by decide) hS ?_
                  show Wq 3 0 0 mD_sheet 67 [iR 0, iI 1, iI x2, iI x3] [vI (-1000001)] (sI M 69 1 (wr (gI M 69 1 + 1))) _
                  refine wq_ireturn (pc := 67) dD_sheet_67 trivial ?_
                  exact H
            · have H := H.2 c36
              refine wq_iload_n (pc := 40) dD_sheet_40 rfl rfl ?_
              refine wq_if_ge (pc := 41) (tgt := 51) dD_sheet_41 (by decide) (fun c41 => ?_) (fun c41 => ?_)
              · have H := H.1 c41
                refine wq_iload_n (pc := 51) dD_sheet_51 rfl rfl ?_
                refine wq_if_eq (pc := 52) (tgt := 68) dD_sheet_52 (by decide) (fun c42 => ?_) (fun c42 => ?_)
                · have H := H.1 c42
                  refine wq_aload_n (pc := 68) dD_sheet_68 rfl rfl ?_
                  refine wq_getR (pc := 69) (z := 5) (b := 68) dD_sheet_69 fO_D_42 sh_0 rfl rfl (rf_0_5 hS) ?_
                  refine wq_iload_n (pc := 72) dD_sheet_72 rfl rfl ?_
                  refine wq_aald (pc := 73) (b := 74) dD_sheet_73 sh_68 (by decide) (by decide) (rf_68_1 hS) ?_
                  refine wq_iload_n (pc := 74) dD_sheet_74 rfl rfl ?_
                  refine wq_iload_n (pc := 75) dD_sheet_75 rfl rfl ?_
                  refine wq_if_ne (pc := 76) (tgt := 83) dD_sheet_76 (by decide) (fun c43 => ?_) (fun c43 => ?_)
                  · have H := H.1 c43
                    refine wq_iload_n (pc := 83) dD_sheet_83 rfl rfl ?_
                    refine wq_callV (d' := 1) (pc := 84) (as := [vI x2, vI x3]) (rest := []) (lo' := [iR 74, iI x2, iI x3, none]) dD_sheet_84 mO_S_renew lV_D_316 sh_74 (by decide) cl_6 rfl rfl rfl rfl rfl rfl ?_
                    exact H
                  · have H := H.2 c43
                    refine wq_iconst (pc := 79) dD_sheet_79 rfl ?_
                    refine wq_goto (pc := 80) (tgt := 84) dD_sheet_80 (by decide) ?_
                    refine wq_callV (d' := 1) (pc := 84) (as := [vI x2, vI 0]) (rest := []) (lo' := [iR 74, iI x2, iI 0, none]) dD_sheet_84 mO_S_renew lV_D_316 sh_74 (by decide) cl_6 rfl rfl rfl rfl rfl rfl ?_
                    exact H
                · have H := H.2 c42
                  refine wq_iload_n (pc := 55) dD_sheet_55 rfl rfl ?_
                  refine wq_bipush (pc := 56) dD_sheet_56 rfl ?_
                  refine wq_icmp_le (pc := 58) (tgt := 68) dD_sheet_58 (by decide) (fun c44 => ?_) (fun c44 => ?_)
                  · have H := H.1 c44
                    refine wq_aload_n (pc := 68) dD_sheet_68 rfl rfl ?_
                    refine wq_getR (pc := 69) (z := 5) (b := 68) dD_sheet_69 fO_D_42 sh_0 rfl rfl (rf_0_5 hS) ?_
                    refine wq_iload_n (pc := 72) dD_sheet_72 rfl rfl ?_
                    refine wq_aald (pc := 73) (b := 74) dD_sheet_73 sh_68 (by decide) (by decide) (rf_68_1 hS) ?_
                    refine wq_iload_n (pc := 74) dD_sheet_74 rfl rfl ?_
                    refine wq_iload_n (pc := 75) dD_sheet_75 rfl rfl ?_
                    refine wq_if_ne (pc := 76) (tgt := 83) dD_sheet_76 (by decide) (fun c45 => ?_) (fun c45 => ?_)
                    · have H := H.1 c45
                      refine wq_iload_n (pc := 83) dD_sheet_83 rfl rfl ?_
                      refine wq_callV (d' := 1) (pc := 84) (as := [vI x2, vI x3]) (rest := []) (lo' := [iR 74, iI x2, iI x3, none]) dD_sheet_84 mO_S_renew lV_D_316 sh_74 (by decide) cl_6 rfl rfl rfl rfl rfl rfl ?_
                      exact H
                    · have H := H.2 c45
                      refine wq_iconst (pc := 79) dD_sheet_79 rfl ?_
                      refine wq_goto (pc := 80) (tgt := 84) dD_sheet_80 (by decide) ?_
                      refine wq_callV (d' := 1) (pc := 84) (as := [vI x2, vI 0]) (rest := []) (lo' := [iR 74, iI x2, iI 0, none]) dD_sheet_84 mO_S_renew lV_D_316 sh_74 (by decide) cl_6 rfl rfl rfl rfl rfl rfl ?_
                      exact H
                  · have H := H.2 c44
                    refine wq_aload_n (pc := 61) dD_sheet_61 rfl rfl ?_
                    refine wq_ldc (pc := 62) (z := (-1000001)) dD_sheet_62 kO_D_69 (by decide) ?_
                    refine wq_callV (d' := 2) (pc := 64) (as := [vI (-1000001)]) (rest := []) (lo' := [iR 0, iI ((-1000001)), none]) dD_sheet_64 mO_D_finding lV_D_70 sh_0 (by decide) cl_10 rfl rfl rfl rfl rfl rfl ?_
                    refine sp_D_finding (k := 1) (by decide) (by decide) (by decide) hS ?_
                    show Wq 3 0 0 mD_sheet 67 [iR 0, iI 1, iI x2, iI x3] [vI (-1000001)] (sI M 69 1 (wr (gI M 69 1 + 1))) _
                    refine wq_ireturn (pc := 67) dD_sheet_67 trivial ?_
                    exact H
              · have H := H.2 c41
                refine wq_aload_n (pc := 44) dD_sheet_44 rfl rfl ?_
                refine wq_ldc (pc := 45) (z := (-1000003)) dD_sheet_45 kO_D_111 (by decide) ?_
                refine wq_callV (d' := 2) (pc := 47) (as := [vI (-1000003)]) (rest := []) (lo' := [iR 0, iI ((-1000003)), none]) dD_sheet_47 mO_D_finding lV_D_70 sh_0 (by decide) cl_10 rfl rfl rfl rfl rfl rfl ?_
                refine sp_D_finding (k := 3) (by decide) (by decide) (by decide) hS ?_
                show Wq 3 0 0 mD_sheet 50 [iR 0, iI 1, iI x2, iI x3] [vI (-1000003)] (sI M 69 3 (wr (gI M 69 3 + 1))) _
                refine wq_ireturn (pc := 50) dD_sheet_50 trivial ?_
                exact H
          · have H := H.2 c35
            refine wq_aload_n (pc := 29) dD_sheet_29 rfl rfl ?_
            refine wq_ldc (pc := 30) (z := (-1000001)) dD_sheet_30 kO_D_69 (by decide) ?_
            refine wq_callV (d' := 2) (pc := 32) (as := [vI (-1000001)]) (rest := []) (lo' := [iR 0, iI ((-1000001)), none]) dD_sheet_32 mO_D_finding lV_D_70 sh_0 (by decide) cl_10 rfl rfl rfl rfl rfl rfl ?_
            refine sp_D_finding (k := 1) (by decide) (by decide) (by decide) hS ?_
            show Wq 3 0 0 mD_sheet 35 [iR 0, iI 1, iI x2, iI x3] [vI (-1000001)] (sI M 69 1 (wr (gI M 69 1 + 1))) _
            refine wq_ireturn (pc := 35) dD_sheet_35 trivial ?_
            exact H
  · have H := H.2 c1
    show Wq 3 0 0 mD_sheet 4 [iR 0, iI 1, iI x2, iI x3] [vI 0] M _
    refine wq_if_eq (pc := 4) (tgt := 29) dD_sheet_4 (by decide) (fun _ => ?_) (fun q => absurd (by decide) q)
    refine wq_aload_n (pc := 29) dD_sheet_29 rfl rfl ?_
    refine wq_ldc (pc := 30) (z := (-1000001)) dD_sheet_30 kO_D_69 (by decide) ?_
    refine wq_callV (d' := 2) (pc := 32) (as := [vI (-1000001)]) (rest := []) (lo' := [iR 0, iI ((-1000001)), none]) dD_sheet_32 mO_D_finding lV_D_70 sh_0 (by decide) cl_10 rfl rfl rfl rfl rfl rfl ?_
    refine sp_D_finding (k := 1) (by decide) (by decide) (by decide) hS ?_
    show Wq 3 0 0 mD_sheet 35 [iR 0, iI 1, iI x2, iI x3] [vI (-1000001)] (sI M 69 1 (wr (gI M 69 1 + 1))) _
    refine wq_ireturn (pc := 35) dD_sheet_35 trivial ?_
    exact H

set_option maxRecDepth 20000 in
theorem B_D_sheet_s1_87 {x2 x3 : Int} {M : Mm} {Q : Mm → Option Mv → Prop} (H : Q M (some (vI 1))) : Wq 3 0 0 mD_sheet 87 [iR 0, iI 1, iI x2, iI x3] [] M Q := by
  refine wq_iconst (pc := 87) dD_sheet_87 rfl ?_
  refine wq_ireturn (pc := 88) dD_sheet_88 trivial ?_
  exact H
set_option maxRecDepth 20000 in
theorem B_D_put_s1_0 {x2 x3 : Int} {M : Mm} {Q : Mm → Option Mv → Prop} (hS : RefOK M) (H : ((0 ≤ (1 : Int) ∧ (1 : Int) ≤ 3 → ((¬ gI M 74 1 = 0 → ((-2147483648 ≤ gI M 74 2 - 1 ∧ gI M 74 2 - 1 < 2147483648) ∧ ((0 ≤ x2 ∧ x2 ≤ gI M 74 2 - 1 → Wq 1 0 0 mS_cut 0 [iR 74, iI x3] [] M (fun M' v => Wq 3 0 0 mD_put 71 [iR 0, iI 1, iI x2, iI x3, iR 74] (v.toList ++ [vI x2, vR 75]) M' Q)) ∧ (¬ (0 ≤ x2 ∧ x2 ≤ gI M 74 2 - 1) → Q (sI M 69 1 (wr (gI M 69 1 + 1))) (some (vI (-1000001))))))) ∧ (gI M 74 1 = 0 → Q (sI M 69 2 (wr (gI M 69 2 + 1))) (some (vI (-1000002)))))) ∧ (¬ (0 ≤ (1 : Int) ∧ (1 : Int) ≤ 3) → Q (sI M 69 1 (wr (gI M 69 1 + 1))) (some (vI (-1000001)))))) : Wq 3 0 0 mD_put 0 [iR 0, iI 1, iI x2, iI x3, none] [] M Q := by
  refine wq_iload_n (pc := 0) dD_put_0 rfl rfl ?_
  refine wq_callS (d' := 2) (pc := 1) (as := [vI 1]) (rest := []) (lo' := [iI 1]) dD_put_1 mO_D_isSheet lS_D_284 rfl rfl rfl rfl rfl rfl ?_
  refine sp_D_isSheet (fun c1 => ?_) (fun c1 => ?_)
  · have H := H.1 c1
    show Wq 3 0 0 mD_put 4 [iR 0, iI 1, iI x2, iI x3, none] [vI 1] M _
    refine wq_if_ne (pc := 4) (tgt := 14) dD_put_4 (by decide) (fun _ => ?_) (fun q => absurd q (by decide))
    refine wq_aload_n (pc := 14) dD_put_14 rfl rfl ?_
    refine wq_getR (pc := 15) (z := 5) (b := 68) dD_put_15 fO_D_42 sh_0 rfl rfl (rf_0_5 hS) ?_
    refine wq_iload_n (pc := 18) dD_put_18 rfl rfl ?_
    refine wq_aald (pc := 19) (b := 74) dD_put_19 sh_68 (by decide) (by decide) (rf_68_1 hS) ?_
    refine wq_astore (pc := 20) (lo' := [iR 0, iI 1, iI x2, iI x3, iR 74]) dD_put_20 rfl rfl ?_
    refine wq_aload (pc := 22) dD_put_22 rfl ?_
    refine wq_getI (pc := 24) (z := 1) dD_put_24 fO_D_287 sh_74 rfl rfl ?_
    refine wq_if_ne (pc := 27) (tgt := 37) dD_put_27 (by decide) (fun c2 => ?_) (fun c2 => ?_)
    · have H := H.1 c2
      obtain ⟨s3, H⟩ := H
      refine wq_iload_n (pc := 37) dD_put_37 rfl rfl ?_
      refine wq_iconst (pc := 38) dD_put_38 rfl ?_
      refine wq_aload (pc := 39) dD_put_39 rfl ?_
      refine wq_getI (pc := 41) (z := 2) dD_put_41 fO_D_320 sh_74 rfl rfl ?_
      refine wq_iconst (pc := 44) dD_put_44 rfl ?_
      refine wq_isub (pc := 45) dD_put_45 ?_
      refine wq_re (x := (wr (gI M 74 2 - 1))) (y := (gI M 74 2 - 1)) (Eq.trans (wr_eq (by omega) (by omega)) (by omega)) ?_
      refine wq_callS (d' := 1) (pc := 46) (as := [vI x2, vI 0, vI (gI M 74 2 - 1)]) (rest := []) (lo' := [iI x2, iI 0, iI (gI M 74 2 - 1)]) dD_put_46 mO_D_within lS_D_65 rfl rfl rfl rfl rfl rfl ?_
      refine sp_D_within (fun c4 => ?_) (fun c4 => ?_)
      · have H := H.1 c4
        show Wq 3 0 0 mD_put 49 [iR 0, iI 1, iI x2, iI x3, iR 74] [vI 1] M _
        refine wq_if_ne (pc := 49) (tgt := 59) dD_put_49 (by decide) (fun _ => ?_) (fun q => absurd q (by decide))
        refine wq_aload (pc := 59) dD_put_59 rfl ?_
        refine wq_getR (pc := 61) (z := 0) (b := 75) dD_put_61 fO_D_294 sh_74 rfl rfl (rf_74_0 hS) ?_
        refine wq_iload_n (pc := 64) dD_put_64 rfl rfl ?_
        refine wq_aload (pc := 65) dD_put_65 rfl ?_
        refine wq_iload_n (pc := 67) dD_put_67 rfl rfl ?_
        refine wq_callV (d' := 1) (pc := 68) (as := [vI x3]) (rest := [vI x2, vR 75]) (lo' := [iR 74, iI x3]) dD_put_68 mO_S_cut lV_D_323 sh_74 (by decide) cl_6 rfl rfl rfl rfl rfl rfl ?_
        exact H
      · have H := H.2 c4
        show Wq 3 0 0 mD_put 49 [iR 0, iI 1, iI x2, iI x3, iR 74] [vI 0] M _
        refine wq_if_ne (pc := 49) (tgt := 59) dD_put_49 (by decide) (fun q => absurd q (by decide)) (fun _ => ?_)
        refine wq_aload_n (pc := 52) dD_put_52 rfl rfl ?_
        refine wq_ldc (pc := 53) (z := (-1000001)) dD_put_53 kO_D_69 (by decide) ?_
        refine wq_callV (d' := 2) (pc := 55) (as := [vI (-1000001)]) (rest := []) (lo' := [iR 0, iI ((-1000001)), none]) dD_put_55 mO_D_finding lV_D_70 sh_0 (by decide) cl_10 rfl rfl rfl rfl rfl rfl ?_
        refine sp_D_finding (k := 1) (by decide) (by decide) (by decide) hS ?_
        show Wq 3 0 0 mD_put 58 [iR 0, iI 1, iI x2, iI x3, iR 74] [vI (-1000001)] (sI M 69 1 (wr (gI M 69 1 + 1))) _
        refine wq_ireturn (pc := 58) dD_put_58 trivial ?_
        exact H
    · have H := H.2 c2
      refine wq_aload_n (pc := 30) dD_put_30 rfl rfl ?_
      refine wq_ldc (pc := 31) (z := (-1000002)) dD_put_31 kO_D_125 (by decide) ?_
      refine wq_callV (d' := 2) (pc := 33) (as := [vI (-1000002)]) (rest := []) (lo' := [iR 0, iI ((-1000002)), none]) dD_put_33 mO_D_finding lV_D_70 sh_0 (by decide) cl_10 rfl rfl rfl rfl rfl rfl ?_
      refine sp_D_finding (k := 2) (by decide) (by decide) (by decide) hS ?_
      show Wq 3 0 0 mD_put 36 [iR 0, iI 1, iI x2, iI x3, iR 74] [vI (-1000002)] (sI M 69 2 (wr (gI M 69 2 + 1))) _
      refine wq_ireturn (pc := 36) dD_put_36 trivial ?_
      exact H
  · have H := H.2 c1
    show Wq 3 0 0 mD_put 4 [iR 0, iI 1, iI x2, iI x3, none] [vI 0] M _
    refine wq_if_ne (pc := 4) (tgt := 14) dD_put_4 (by decide) (fun q => absurd q (by decide)) (fun _ => ?_)
    refine wq_aload_n (pc := 7) dD_put_7 rfl rfl ?_
    refine wq_ldc (pc := 8) (z := (-1000001)) dD_put_8 kO_D_69 (by decide) ?_
    refine wq_callV (d' := 2) (pc := 10) (as := [vI (-1000001)]) (rest := []) (lo' := [iR 0, iI ((-1000001)), none]) dD_put_10 mO_D_finding lV_D_70 sh_0 (by decide) cl_10 rfl rfl rfl rfl rfl rfl ?_
    refine sp_D_finding (k := 1) (by decide) (by decide) (by decide) hS ?_
    show Wq 3 0 0 mD_put 13 [iR 0, iI 1, iI x2, iI x3, none] [vI (-1000001)] (sI M 69 1 (wr (gI M 69 1 + 1))) _
    refine wq_ireturn (pc := 13) dD_put_13 trivial ?_
    exact H

set_option maxRecDepth 20000 in
theorem B_D_put_s1_71 {x2 x3 y0 y1 : Int} {M : Mm} {Q : Mm → Option Mv → Prop} (H : ((0 ≤ y1 ∧ y1 < 24) ∧ Q (sI M 75 y1 y0) (some (vI 1)))) : Wq 3 0 0 mD_put 71 [iR 0, iI 1, iI x2, iI x3, iR 74] [vI y0, vI y1, vR 75] M Q := by
  obtain ⟨s1, H⟩ := H
  refine wq_iast (pc := 71) dD_put_71 sh_75 (by decide) s1.1 s1.2 ?_
  refine wq_iconst (pc := 72) dD_put_72 rfl ?_
  refine wq_ireturn (pc := 73) dD_put_73 trivial ?_
  exact H
set_option maxRecDepth 20000 in
theorem B_D_move_s10_0 {x2 x4 x5 : Int} {M : Mm} {Q : Mm → Option Mv → Prop} (hS : RefOK M) (H : ((0 ≤ (1 : Int) ∧ (1 : Int) ≤ 3 → ((0 ≤ (0 : Int) ∧ (0 : Int) ≤ 3 → ((gI M 74 1 = 0 → Q (sI M 69 2 (wr (gI M 69 2 + 1))) (some (vI (-1000002)))) ∧ (¬ gI M 74 1 = 0 → ((¬ gI M 72 1 = 0 → ((gI M 74 1 = gI M 72 1 → ((x5 < 0 → Q (sI M 69 1 (wr (gI M 69 1 + 1))) (some (vI (-1000001)))) ∧ (¬ x5 < 0 → ((-2147483648 ≤ gI M 74 2 - x5 ∧ gI M 74 2 - x5 < 2147483648) ∧ ((0 ≤ x2 ∧ x2 ≤ gI M 74 2 - x5 → ((-2147483648 ≤ gI M 72 2 - x5 ∧ gI M 72 2 - x5 < 2147483648) ∧ ((0 ≤ x4 ∧ x4 ≤ gI M 72 2 - x5 → ((0 ≤ x2 ∧ 0 ≤ x4 ∧ 0 ≤ x5 ∧ x2 + x5 ≤ 24 ∧ x4 + x5 ≤ 24) ∧ Q (cI M 75 x2 73 x4 x5) (some (vI x5)))) ∧ (¬ (0 ≤ x4 ∧ x4 ≤ gI M 72 2 - x5) → Q (sI M 69 1 (wr (gI M 69 1 + 1))) (some (vI (-1000001))))))) ∧ (¬ (0 ≤ x2 ∧ x2 ≤ gI M 74 2 - x5) → Q (sI M 69 1 (wr (gI M 69 1 + 1))) (some (vI (-1000001))))))))) ∧ (¬ gI M 74 1 = gI M 72 1 → Q (sI M 69 5 (wr (gI M 69 5 + 1))) (some (vI (-1000005)))))) ∧ (gI M 72 1 = 0 → Q (sI M 69 2 (wr (gI M 69 2 + 1))) (some (vI (-1000002)))))))) ∧ (¬ (0 ≤ (0 : Int) ∧ (0 : Int) ≤ 3) → Q (sI M 69 1 (wr (gI M 69 1 + 1))) (some (vI (-1000001)))))) ∧ (¬ (0 ≤ (1 : Int) ∧ (1 : Int) ≤ 3) → Q (sI M 69 1 (wr (gI M 69 1 + 1))) (some (vI (-1000001)))))) : Wq 3 0 0 mD_move 0 [iR 0, iI 1, iI x2, iI 0, iI x4, iI x5, none, none] [] M Q := by
  refine wq_iload_n (pc := 0) dD_move_0 rfl rfl ?_
  refine wq_callS (d' := 2) (pc := 1) (as := [vI 1]) (rest := []) (lo' := [iI 1]) dD_move_1 mO_D_isSheet lS_D_284 rfl rfl rfl rfl rfl rfl ?_
  refine sp_D_isSheet (fun c1 => ?_) (fun c1 => ?_)
  · have H := H.1 c1
    show Wq 3 0 0 mD_move 4 [iR 0, iI 1, iI x2, iI 0, iI x4, iI x5, none, none] [vI 1] M _
    refine wq_if_eq (pc := 4) (tgt := 14) dD_move_4 (by decide) (fun q => absurd q (by decide)) (fun _ => ?_)
    refine wq_iload_n (pc := 7) dD_move_7 rfl rfl ?_
    refine wq_callS (d' := 2) (pc := 8) (as := [vI 0]) (rest := []) (lo' := [iI 0]) dD_move_8 mO_D_isSheet lS_D_284 rfl rfl rfl rfl rfl rfl ?_
    refine sp_D_isSheet (fun c2 => ?_) (fun c2 => ?_)
    · have H := H.1 c2
      show Wq 3 0 0 mD_move 11 [iR 0, iI 1, iI x2, iI 0, iI x4, iI x5, none, none] [vI 1] M _
      refine wq_if_ne (pc := 11) (tgt := 21) dD_move_11 (by decide) (fun _ => ?_) (fun q => absurd q (by decide))
      refine wq_aload_n (pc := 21) dD_move_21 rfl rfl ?_
      refine wq_getR (pc := 22) (z := 5) (b := 68) dD_move_22 fO_D_42 sh_0 rfl rfl (rf_0_5 hS) ?_
      refine wq_iload_n (pc := 25) dD_move_25 rfl rfl ?_
      refine wq_aald (pc := 26) (b := 74) dD_move_26 sh_68 (by decide) (by decide) (rf_68_1 hS) ?_
      refine wq_astore (pc := 27) (lo' := [iR 0, iI 1, iI x2, iI 0, iI x4, iI x5, iR 74, none]) dD_move_27 rfl rfl ?_
      refine wq_aload_n (pc := 29) dD_move_29 rfl rfl ?_
      refine wq_getR (pc := 30) (z := 5) (b := 68) dD_move_30 fO_D_42 sh_0 rfl rfl (rf_0_5 hS) ?_
      refine wq_iload_n (pc := 33) dD_move_33 rfl rfl ?_
      refine wq_aald (pc := 34) (b := 72) dD_move_34 sh_68 (by decide) (by decide) (rf_68_0 hS) ?_
      refine wq_astore (pc := 35) (lo' := [iR 0, iI 1, iI x2, iI 0, iI x4, iI x5, iR 74, iR 72]) dD_move_35 rfl rfl ?_
      refine wq_aload (pc := 37) dD_move_37 rfl ?_
      refine wq_getI (pc := 39) (z := 1) dD_move_39 fO_D_287 sh_74 rfl rfl ?_
      refine wq_if_eq (pc := 42) (tgt := 53) dD_move_42 (by decide) (fun c3 => ?_) (fun c3 => ?_)
      · have H := H.1 c3
        refine wq_aload_n (pc := 53) dD_move_53 rfl rfl ?_
        refine wq_ldc (pc := 54) (z := (-1000002)) dD_move_54 kO_D_125 (by decide) ?_
        refine wq_callV (d' := 2) (pc := 56) (as := [vI (-1000002)]) (rest := []) (lo' := [iR 0, iI ((-1000002)), none]) dD_move_56 mO_D_finding lV_D_70 sh_0 (by decide) cl_10 rfl rfl rfl rfl rfl rfl ?_
        refine sp_D_finding (k := 2) (by decide) (by decide) (by decide) hS ?_
        show Wq 3 0 0 mD_move 59 [iR 0, iI 1, iI x2, iI 0, iI x4, iI x5, iR 74, iR 72] [vI (-1000002)] (sI M 69 2 (wr (gI M 69 2 + 1))) _
        refine wq_ireturn (pc := 59) dD_move_59 trivial ?_
        exact H
      · have H := H.2 c3
        refine wq_aload (pc := 45) dD_move_45 rfl ?_
        refine wq_getI (pc := 47) (z := 1) dD_move_47 fO_D_287 sh_72 rfl rfl ?_
        refine wq_if_ne (pc := 50) (tgt := 60) dD_move_50 (by decide) (fun c4 => ?_) (fun c4 => ?_)
        · have H := H.1 c4
          refine wq_aload (pc := 60) dD_move_60 rfl ?_
          refine wq_getI (pc := 62) (z := 1) dD_move_62 fO_D_287 sh_74 rfl rfl ?_
          refine wq_aload (pc := 65) dD_move_65 rfl ?_
          refine wq_getI (pc := 67) (z := 1) dD_move_67 fO_D_287 sh_72 rfl rfl ?_
          refine wq_icmp_eq (pc := 70) (tgt := 80) dD_move_70 (by decide) (fun c5 => ?_) (fun c5 => ?_)
          · have H := H.1 c5
            refine wq_iload (pc := 80) dD_move_80 rfl ?_
            refine wq_if_lt (pc := 82) (tgt := 118) dD_move_82 (by decide) (fun c6 => ?_) (fun c6 => ?_)
            · have H := H.1 c6
              refine wq_aload_n (pc := 118) dD_move_118 rfl rfl ?_
              refine wq_ldc (pc := 119) (z := (-1000001)) dD_move_119 kO_D_69 (by decide) ?_
              refine wq_callV (d' := 2) (pc := 121) (as := [vI (-1000001)]) (rest := []) (lo' := [iR 0, iI ((-1000001)), none]) dD_move_121 mO_D_finding lV_D_70 sh_0 (by decide) cl_10 rfl rfl rfl rfl rfl rfl ?_
              refine sp_D_finding (k := 1) (by decide) (by decide) (by decide) hS ?_
              show Wq 3 0 0 mD_move 124 [iR 0, iI 1, iI x2, iI 0, iI x4, iI x5, iR 74, iR 72] [vI (-1000001)] (sI M 69 1 (wr (gI M 69 1 + 1))) _
              refine wq_ireturn (pc := 124) dD_move_124 trivial ?_
              exact H
            · have H := H.2 c6
              obtain ⟨s7, H⟩ := H
              refine wq_iload_n (pc := 85) dD_move_85 rfl rfl ?_
              refine wq_iconst (pc := 86) dD_move_86 rfl ?_
              refine wq_aload (pc := 87) dD_move_87 rfl ?_
              refine wq_getI (pc := 89) (z := 2) dD_move_89 fO_D_320 sh_74 rfl rfl ?_
              refine wq_iload (pc := 92) dD_move_92 rfl ?_
              refine wq_isub (pc := 94) dD_move_94 ?_
              refine wq_re (x := (wr (gI M 74 2 - x5))) (y := (gI M 74 2 - x5)) (Eq.trans (wr_eq (by omega) (by omega)) (by omega)) ?_
              refine wq_callS (d' := 1) (pc := 95) (as := [vI x2, vI 0, vI (gI M 74 2 - x5)]) (rest := []) (lo' := [iI x2, iI 0, iI (gI M 74 2 - x5)]) dD_move_95 mO_D_within lS_D_65 rfl rfl rfl rfl rfl rfl ?_
              refine sp_D_within (fun c8 => ?_) (fun c8 => ?_)
              · have H := H.1 c8
                show Wq 3 0 0 mD_move 98 [iR 0, iI 1, iI x2, iI 0, iI x4, iI x5, iR 74, iR 72] [vI 1] M _
                obtain ⟨s9, H⟩ := H
                refine wq_if_eq (pc := 98) (tgt := 118) dD_move_98 (by decide) (fun q => absurd q (by decide)) (fun _ => ?_)
                refine wq_iload (pc := 101) dD_move_101 rfl ?_
                refine wq_iconst (pc := 103) dD_move_103 rfl ?_
                refine wq_aload (pc := 104) dD_move_104 rfl ?_
                refine wq_getI (pc := 106) (z := 2) dD_move_106 fO_D_320 sh_72 rfl rfl ?_
                refine wq_iload (pc := 109) dD_move_109 rfl ?_
                refine wq_isub (pc := 111) dD_move_111 ?_
                refine wq_re (x := (wr (gI M 72 2 - x5))) (y := (gI M 72 2 - x5)) (Eq.trans (wr_eq (by omega) (by omega)) (by omega)) ?_
                refine wq_callS (d' := 1) (pc := 112) (as := [vI x4, vI 0, vI (gI M 72 2 - x5)]) (rest := []) (lo' := [iI x4, iI 0, iI (gI M 72 2 - x5)]) dD_move_112 mO_D_within lS_D_65 rfl rfl rfl rfl rfl rfl ?_
                refine sp_D_within (fun c10 => ?_) (fun c10 => ?_)
                · have H := H.1 c10
                  show Wq 3 0 0 mD_move 115 [iR 0, iI 1, iI x2, iI 0, iI x4, iI x5, iR 74, iR 72] [vI 1] M _
                  obtain ⟨s11, H⟩ := H
                  refine wq_if_ne (pc := 115) (tgt := 125) dD_move_115 (by decide) (fun _ => ?_) (fun q => absurd q (by decide))
                  refine wq_aload (pc := 125) dD_move_125 rfl ?_
                  refine wq_getR (pc := 127) (z := 0) (b := 75) dD_move_127 fO_D_294 sh_74 rfl rfl (rf_74_0 hS) ?_
                  refine wq_iload_n (pc := 130) dD_move_130 rfl rfl ?_
                  refine wq_aload (pc := 131) dD_move_131 rfl ?_
                  refine wq_getR (pc := 133) (z := 0) (b := 73) dD_move_133 fO_D_294 sh_72 rfl rfl (rf_72_0 hS) ?_
                  refine wq_iload (pc := 136) dD_move_136 rfl ?_
                  refine wq_iload (pc := 138) dD_move_138 rfl ?_
                  refine wq_cpI (pc := 140) dD_move_140 aC_D_326 (Or.inl ⟨sh_75, sh_73⟩) (by decide) (by decide) s11.1 s11.2.1 s11.2.2.1 (by have := s11; omega) (by have := s11; omega) rfl ?_
                  refine wq_iload (pc := 143) dD_move_143 rfl ?_
                  refine wq_ireturn (pc := 145) dD_move_145 trivial ?_
                  exact H
                · have H := H.2 c10
                  show Wq 3 0 0 mD_move 115 [iR 0, iI 1, iI x2, iI 0, iI x4, iI x5, iR 74, iR 72] [vI 0] M _
                  refine wq_if_ne (pc := 115) (tgt := 125) dD_move_115 (by decide) (fun q => absurd q (by decide)) (fun _ => ?_)
                  refine wq_aload_n (pc := 118) dD_move_118 rfl rfl ?_
                  refine wq_ldc (pc := 119) (z := (-1000001)) dD_move_119 kO_D_69 (by decide) ?_
                  refine wq_callV (d' := 2) (pc := 121) (as := [vI (-1000001)]) (rest := []) (lo' := [iR 0, iI ((-1000001)), none]) dD_move_121 mO_D_finding lV_D_70 sh_0 (by decide) cl_10 rfl rfl rfl rfl rfl rfl ?_
                  refine sp_D_finding (k := 1) (by decide) (by decide) (by decide) hS ?_
                  show Wq 3 0 0 mD_move 124 [iR 0, iI 1, iI x2, iI 0, iI x4, iI x5, iR 74, iR 72] [vI (-1000001)] (sI M 69 1 (wr (gI M 69 1 + 1))) _
                  refine wq_ireturn (pc := 124) dD_move_124 trivial ?_
                  exact H
              · have H := H.2 c8
                show Wq 3 0 0 mD_move 98 [iR 0, iI 1, iI x2, iI 0, iI x4, iI x5, iR 74, iR 72] [vI 0] M _
                refine wq_if_eq (pc := 98) (tgt := 118) dD_move_98 (by decide) (fun _ => ?_) (fun q => absurd (by decide) q)
                refine wq_aload_n (pc := 118) dD_move_118 rfl rfl ?_
                refine wq_ldc (pc := 119) (z := (-1000001)) dD_move_119 kO_D_69 (by decide) ?_
                refine wq_callV (d' := 2) (pc := 121) (as := [vI (-1000001)]) (rest := []) (lo' := [iR 0, iI ((-1000001)), none]) dD_move_121 mO_D_finding lV_D_70 sh_0 (by decide) cl_10 rfl rfl rfl rfl rfl rfl ?_
                refine sp_D_finding (k := 1) (by decide) (by decide) (by decide) hS ?_
                show Wq 3 0 0 mD_move 124 [iR 0, iI 1, iI x2, iI 0, iI x4, iI x5, iR 74, iR 72] [vI (-1000001)] (sI M 69 1 (wr (gI M 69 1 + 1))) _
                refine wq_ireturn (pc := 124) dD_move_124 trivial ?_
                exact H
          · have H := H.2 c5
            refine wq_aload_n (pc := 73) dD_move_73 rfl rfl ?_
            refine wq_ldc (pc := 74) (z := (-1000005)) dD_move_74 kO_D_98 (by decide) ?_
            refine wq_callV (d' := 2) (pc := 76) (as := [vI (-1000005)]) (rest := []) (lo' := [iR 0, iI ((-1000005)), none]) dD_move_76 mO_D_finding lV_D_70 sh_0 (by decide) cl_10 rfl rfl rfl rfl rfl rfl ?_
            refine sp_D_finding (k := 5) (by decide) (by decide) (by decide) hS ?_
            show Wq 3 0 0 mD_move 79 [iR 0, iI 1, iI x2, iI 0, iI x4, iI x5, iR 74, iR 72] [vI (-1000005)] (sI M 69 5 (wr (gI M 69 5 + 1))) _
            refine wq_ireturn (pc := 79) dD_move_79 trivial ?_
            exact H
        · have H := H.2 c4
          refine wq_aload_n (pc := 53) dD_move_53 rfl rfl ?_
          refine wq_ldc (pc := 54) (z := (-1000002)) dD_move_54 kO_D_125 (by decide) ?_
          refine wq_callV (d' := 2) (pc := 56) (as := [vI (-1000002)]) (rest := []) (lo' := [iR 0, iI ((-1000002)), none]) dD_move_56 mO_D_finding lV_D_70 sh_0 (by decide) cl_10 rfl rfl rfl rfl rfl rfl ?_
          refine sp_D_finding (k := 2) (by decide) (by decide) (by decide) hS ?_
          show Wq 3 0 0 mD_move 59 [iR 0, iI 1, iI x2, iI 0, iI x4, iI x5, iR 74, iR 72] [vI (-1000002)] (sI M 69 2 (wr (gI M 69 2 + 1))) _
          refine wq_ireturn (pc := 59) dD_move_59 trivial ?_
          exact H
    · have H := H.2 c2
      show Wq 3 0 0 mD_move 11 [iR 0, iI 1, iI x2, iI 0, iI x4, iI x5, none, none] [vI 0] M _
      refine wq_if_ne (pc := 11) (tgt := 21) dD_move_11 (by decide) (fun q => absurd q (by decide)) (fun _ => ?_)
      refine wq_aload_n (pc := 14) dD_move_14 rfl rfl ?_
      refine wq_ldc (pc := 15) (z := (-1000001)) dD_move_15 kO_D_69 (by decide) ?_
      refine wq_callV (d' := 2) (pc := 17) (as := [vI (-1000001)]) (rest := []) (lo' := [iR 0, iI ((-1000001)), none]) dD_move_17 mO_D_finding lV_D_70 sh_0 (by decide) cl_10 rfl rfl rfl rfl rfl rfl ?_
      refine sp_D_finding (k := 1) (by decide) (by decide) (by decide) hS ?_
      show Wq 3 0 0 mD_move 20 [iR 0, iI 1, iI x2, iI 0, iI x4, iI x5, none, none] [vI (-1000001)] (sI M 69 1 (wr (gI M 69 1 + 1))) _
      refine wq_ireturn (pc := 20) dD_move_20 trivial ?_
      exact H
  · have H := H.2 c1
    show Wq 3 0 0 mD_move 4 [iR 0, iI 1, iI x2, iI 0, iI x4, iI x5, none, none] [vI 0] M _
    refine wq_if_eq (pc := 4) (tgt := 14) dD_move_4 (by decide) (fun _ => ?_) (fun q => absurd (by decide) q)
    refine wq_aload_n (pc := 14) dD_move_14 rfl rfl ?_
    refine wq_ldc (pc := 15) (z := (-1000001)) dD_move_15 kO_D_69 (by decide) ?_
    refine wq_callV (d' := 2) (pc := 17) (as := [vI (-1000001)]) (rest := []) (lo' := [iR 0, iI ((-1000001)), none]) dD_move_17 mO_D_finding lV_D_70 sh_0 (by decide) cl_10 rfl rfl rfl rfl rfl rfl ?_
    refine sp_D_finding (k := 1) (by decide) (by decide) (by decide) hS ?_
    show Wq 3 0 0 mD_move 20 [iR 0, iI 1, iI x2, iI 0, iI x4, iI x5, none, none] [vI (-1000001)] (sI M 69 1 (wr (gI M 69 1 + 1))) _
    refine wq_ireturn (pc := 20) dD_move_20 trivial ?_
    exact H
set_option maxRecDepth 20000 in
theorem B_D_move_s11_0 {x2 x4 x5 : Int} {M : Mm} {Q : Mm → Option Mv → Prop} (hS : RefOK M) (H : ((0 ≤ (1 : Int) ∧ (1 : Int) ≤ 3 → ((0 ≤ (1 : Int) ∧ (1 : Int) ≤ 3 → ((gI M 74 1 = 0 → Q (sI M 69 2 (wr (gI M 69 2 + 1))) (some (vI (-1000002)))) ∧ (¬ gI M 74 1 = 0 → ((¬ gI M 74 1 = 0 → ((gI M 74 1 = gI M 74 1 → ((x5 < 0 → Q (sI M 69 1 (wr (gI M 69 1 + 1))) (some (vI (-1000001)))) ∧ (¬ x5 < 0 → ((-2147483648 ≤ gI M 74 2 - x5 ∧ gI M 74 2 - x5 < 2147483648) ∧ ((0 ≤ x2 ∧ x2 ≤ gI M 74 2 - x5 → ((0 ≤ x4 ∧ x4 ≤ gI M 74 2 - x5 → ((0 ≤ x2 ∧ 0 ≤ x4 ∧ 0 ≤ x5 ∧ x2 + x5 ≤ 24 ∧ x4 + x5 ≤ 24) ∧ Q (cI M 75 x2 75 x4 x5) (some (vI x5)))) ∧ (¬ (0 ≤ x4 ∧ x4 ≤ gI M 74 2 - x5) → Q (sI M 69 1 (wr (gI M 69 1 + 1))) (some (vI (-1000001)))))) ∧ (¬ (0 ≤ x2 ∧ x2 ≤ gI M 74 2 - x5) → Q (sI M 69 1 (wr (gI M 69 1 + 1))) (some (vI (-1000001))))))))) ∧ (¬ gI M 74 1 = gI M 74 1 → Q (sI M 69 5 (wr (gI M 69 5 + 1))) (some (vI (-1000005)))))) ∧ (gI M 74 1 = 0 → Q (sI M 69 2 (wr (gI M 69 2 + 1))) (some (vI (-1000002)))))))) ∧ (¬ (0 ≤ (1 : Int) ∧ (1 : Int) ≤ 3) → Q (sI M 69 1 (wr (gI M 69 1 + 1))) (some (vI (-1000001)))))) ∧ (¬ (0 ≤ (1 : Int) ∧ (1 : Int) ≤ 3) → Q (sI M 69 1 (wr (gI M 69 1 + 1))) (some (vI (-1000001)))))) : Wq 3 0 0 mD_move 0 [iR 0, iI 1, iI x2, iI 1, iI x4, iI x5, none, none] [] M Q := by
  refine wq_iload_n (pc := 0) dD_move_0 rfl rfl ?_
  refine wq_callS (d' := 2) (pc := 1) (as := [vI 1]) (rest := []) (lo' := [iI 1]) dD_move_1 mO_D_isSheet lS_D_284 rfl rfl rfl rfl rfl rfl ?_
  refine sp_D_isSheet (fun c1 => ?_) (fun c1 => ?_)
  · have H := H.1 c1
    show Wq 3 0 0 mD_move 4 [iR 0, iI 1, iI x2, iI 1, iI x4, iI x5, none, none] [vI 1] M _
    refine wq_if_eq (pc := 4) (tgt := 14) dD_move_4 (by decide) (fun q => absurd q (by decide)) (fun _ => ?_)
    refine wq_iload_n (pc := 7) dD_move_7 rfl rfl ?_
    refine wq_callS (d' := 2) (pc := 8) (as := [vI 1]) (rest := []) (lo' := [iI 1]) dD_move_8 mO_D_isSheet lS_D_284 rfl rfl rfl rfl rfl rfl ?_
    refine sp_D_isSheet (fun c2 => ?_) (fun c2 => ?_)
    · have H := H.1 c2
      show Wq 3 0 0 mD_move 11 [iR 0, iI 1, iI x2, iI 1, iI x4, iI x5, none, none] [vI 1] M _
      refine wq_if_ne (pc := 11) (tgt := 21) dD_move_11 (by decide) (fun _ => ?_) (fun q => absurd q (by decide))
      refine wq_aload_n (pc := 21) dD_move_21 rfl rfl ?_
      refine wq_getR (pc := 22) (z := 5) (b := 68) dD_move_22 fO_D_42 sh_0 rfl rfl (rf_0_5 hS) ?_
      refine wq_iload_n (pc := 25) dD_move_25 rfl rfl ?_
      refine wq_aald (pc := 26) (b := 74) dD_move_26 sh_68 (by decide) (by decide) (rf_68_1 hS) ?_
      refine wq_astore (pc := 27) (lo' := [iR 0, iI 1, iI x2, iI 1, iI x4, iI x5, iR 74, none]) dD_move_27 rfl rfl ?_
      refine wq_aload_n (pc := 29) dD_move_29 rfl rfl ?_
      refine wq_getR (pc := 30) (z := 5) (b := 68) dD_move_30 fO_D_42 sh_0 rfl rfl (rf_0_5 hS) ?_
      refine wq_iload_n (pc := 33) dD_move_33 rfl rfl ?_
      refine wq_aald (pc := 34) (b := 74) dD_move_34 sh_68 (by decide) (by decide) (rf_68_1 hS) ?_
      refine wq_astore (pc := 35) (lo' := [iR 0, iI 1, iI x2, iI 1, iI x4, iI x5, iR 74, iR 74]) dD_move_35 rfl rfl ?_
      refine wq_aload (pc := 37) dD_move_37 rfl ?_
      refine wq_getI (pc := 39) (z := 1) dD_move_39 fO_D_287 sh_74 rfl rfl ?_
      refine wq_if_eq (pc := 42) (tgt := 53) dD_move_42 (by decide) (fun c3 => ?_) (fun c3 => ?_)
      · have H := H.1 c3
        refine wq_aload_n (pc := 53) dD_move_53 rfl rfl ?_
        refine wq_ldc (pc := 54) (z := (-1000002)) dD_move_54 kO_D_125 (by decide) ?_
        refine wq_callV (d' := 2) (pc := 56) (as := [vI (-1000002)]) (rest := []) (lo' := [iR 0, iI ((-1000002)), none]) dD_move_56 mO_D_finding lV_D_70 sh_0 (by decide) cl_10 rfl rfl rfl rfl rfl rfl ?_
        refine sp_D_finding (k := 2) (by decide) (by decide) (by decide) hS ?_
        show Wq 3 0 0 mD_move 59 [iR 0, iI 1, iI x2, iI 1, iI x4, iI x5, iR 74, iR 74] [vI (-1000002)] (sI M 69 2 (wr (gI M 69 2 + 1))) _
        refine wq_ireturn (pc := 59) dD_move_59 trivial ?_
        exact H
      · have H := H.2 c3
        refine wq_aload (pc := 45) dD_move_45 rfl ?_
        refine wq_getI (pc := 47) (z := 1) dD_move_47 fO_D_287 sh_74 rfl rfl ?_
        refine wq_if_ne (pc := 50) (tgt := 60) dD_move_50 (by decide) (fun c4 => ?_) (fun c4 => ?_)
        · have H := H.1 c4
          refine wq_aload (pc := 60) dD_move_60 rfl ?_
          refine wq_getI (pc := 62) (z := 1) dD_move_62 fO_D_287 sh_74 rfl rfl ?_
          refine wq_aload (pc := 65) dD_move_65 rfl ?_
          refine wq_getI (pc := 67) (z := 1) dD_move_67 fO_D_287 sh_74 rfl rfl ?_
          refine wq_icmp_eq (pc := 70) (tgt := 80) dD_move_70 (by decide) (fun c5 => ?_) (fun c5 => ?_)
          · have H := H.1 c5
            refine wq_iload (pc := 80) dD_move_80 rfl ?_
            refine wq_if_lt (pc := 82) (tgt := 118) dD_move_82 (by decide) (fun c6 => ?_) (fun c6 => ?_)
            · have H := H.1 c6
              refine wq_aload_n (pc := 118) dD_move_118 rfl rfl ?_
              refine wq_ldc (pc := 119) (z := (-1000001)) dD_move_119 kO_D_69 (by decide) ?_
              refine wq_callV (d' := 2) (pc := 121) (as := [vI (-1000001)]) (rest := []) (lo' := [iR 0, iI ((-1000001)), none]) dD_move_121 mO_D_finding lV_D_70 sh_0 (by decide) cl_10 rfl rfl rfl rfl rfl rfl ?_
              refine sp_D_finding (k := 1) (by decide) (by decide) (by decide) hS ?_
              show Wq 3 0 0 mD_move 124 [iR 0, iI 1, iI x2, iI 1, iI x4, iI x5, iR 74, iR 74] [vI (-1000001)] (sI M 69 1 (wr (gI M 69 1 + 1))) _
              refine wq_ireturn (pc := 124) dD_move_124 trivial ?_
              exact H
            · have H := H.2 c6
              obtain ⟨s7, H⟩ := H
              refine wq_iload_n (pc := 85) dD_move_85 rfl rfl ?_
              refine wq_iconst (pc := 86) dD_move_86 rfl ?_
              refine wq_aload (pc := 87) dD_move_87 rfl ?_
              refine wq_getI (pc := 89) (z := 2) dD_move_89 fO_D_320 sh_74 rfl rfl ?_
              refine wq_iload (pc := 92) dD_move_92 rfl ?_
              refine wq_isub (pc := 94) dD_move_94 ?_
              refine wq_re (x := (wr (gI M 74 2 - x5))) (y := (gI M 74 2 - x5)) (Eq.trans (wr_eq (by omega) (by omega)) (by omega)) ?_
              refine wq_callS (d' := 1) (pc := 95) (as := [vI x2, vI 0, vI (gI M 74 2 - x5)]) (rest := []) (lo' := [iI x2, iI 0, iI (gI M 74 2 - x5)]) dD_move_95 mO_D_within lS_D_65 rfl rfl rfl rfl rfl rfl ?_
              refine sp_D_within (fun c8 => ?_) (fun c8 => ?_)
              · have H := H.1 c8
                show Wq 3 0 0 mD_move 98 [iR 0, iI 1, iI x2, iI 1, iI x4, iI x5, iR 74, iR 74] [vI 1] M _
                refine wq_if_eq (pc := 98) (tgt := 118) dD_move_98 (by decide) (fun q => absurd q (by decide)) (fun _ => ?_)
                refine wq_iload (pc := 101) dD_move_101 rfl ?_
                refine wq_iconst (pc := 103) dD_move_103 rfl ?_
                refine wq_aload (pc := 104) dD_move_104 rfl ?_
                refine wq_getI (pc := 106) (z := 2) dD_move_106 fO_D_320 sh_74 rfl rfl ?_
                refine wq_iload (pc := 109) dD_move_109 rfl ?_
                refine wq_isub (pc := 111) dD_move_111 ?_
                refine wq_re (x := (wr (gI M 74 2 - x5))) (y := (gI M 74 2 - x5)) (Eq.trans (wr_eq (by omega) (by omega)) (by omega)) ?_
                refine wq_callS (d' := 1) (pc := 112) (as := [vI x4, vI 0, vI (gI M 74 2 - x5)]) (rest := []) (lo' := [iI x4, iI 0, iI (gI M 74 2 - x5)]) dD_move_112 mO_D_within lS_D_65 rfl rfl rfl rfl rfl rfl ?_
                refine sp_D_within (fun c9 => ?_) (fun c9 => ?_)
                · have H := H.1 c9
                  show Wq 3 0 0 mD_move 115 [iR 0, iI 1, iI x2, iI 1, iI x4, iI x5, iR 74, iR 74] [vI 1] M _
                  obtain ⟨s10, H⟩ := H
                  refine wq_if_ne (pc := 115) (tgt := 125) dD_move_115 (by decide) (fun _ => ?_) (fun q => absurd q (by decide))
                  refine wq_aload (pc := 125) dD_move_125 rfl ?_
                  refine wq_getR (pc := 127) (z := 0) (b := 75) dD_move_127 fO_D_294 sh_74 rfl rfl (rf_74_0 hS) ?_
                  refine wq_iload_n (pc := 130) dD_move_130 rfl rfl ?_
                  refine wq_aload (pc := 131) dD_move_131 rfl ?_
                  refine wq_getR (pc := 133) (z := 0) (b := 75) dD_move_133 fO_D_294 sh_74 rfl rfl (rf_74_0 hS) ?_
                  refine wq_iload (pc := 136) dD_move_136 rfl ?_
                  refine wq_iload (pc := 138) dD_move_138 rfl ?_
                  refine wq_cpI (pc := 140) dD_move_140 aC_D_326 (Or.inl ⟨sh_75, sh_75⟩) (by decide) (by decide) s10.1 s10.2.1 s10.2.2.1 (by have := s10; omega) (by have := s10; omega) rfl ?_
                  refine wq_iload (pc := 143) dD_move_143 rfl ?_
                  refine wq_ireturn (pc := 145) dD_move_145 trivial ?_
                  exact H
                · have H := H.2 c9
                  show Wq 3 0 0 mD_move 115 [iR 0, iI 1, iI x2, iI 1, iI x4, iI x5, iR 74, iR 74] [vI 0] M _
                  refine wq_if_ne (pc := 115) (tgt := 125) dD_move_115 (by decide) (fun q => absurd q (by decide)) (fun _ => ?_)
                  refine wq_aload_n (pc := 118) dD_move_118 rfl rfl ?_
                  refine wq_ldc (pc := 119) (z := (-1000001)) dD_move_119 kO_D_69 (by decide) ?_
                  refine wq_callV (d' := 2) (pc := 121) (as := [vI (-1000001)]) (rest := []) (lo' := [iR 0, iI ((-1000001)), none]) dD_move_121 mO_D_finding lV_D_70 sh_0 (by decide) cl_10 rfl rfl rfl rfl rfl rfl ?_
                  refine sp_D_finding (k := 1) (by decide) (by decide) (by decide) hS ?_
                  show Wq 3 0 0 mD_move 124 [iR 0, iI 1, iI x2, iI 1, iI x4, iI x5, iR 74, iR 74] [vI (-1000001)] (sI M 69 1 (wr (gI M 69 1 + 1))) _
                  refine wq_ireturn (pc := 124) dD_move_124 trivial ?_
                  exact H
              · have H := H.2 c8
                show Wq 3 0 0 mD_move 98 [iR 0, iI 1, iI x2, iI 1, iI x4, iI x5, iR 74, iR 74] [vI 0] M _
                refine wq_if_eq (pc := 98) (tgt := 118) dD_move_98 (by decide) (fun _ => ?_) (fun q => absurd (by decide) q)
                refine wq_aload_n (pc := 118) dD_move_118 rfl rfl ?_
                refine wq_ldc (pc := 119) (z := (-1000001)) dD_move_119 kO_D_69 (by decide) ?_
                refine wq_callV (d' := 2) (pc := 121) (as := [vI (-1000001)]) (rest := []) (lo' := [iR 0, iI ((-1000001)), none]) dD_move_121 mO_D_finding lV_D_70 sh_0 (by decide) cl_10 rfl rfl rfl rfl rfl rfl ?_
                refine sp_D_finding (k := 1) (by decide) (by decide) (by decide) hS ?_
                show Wq 3 0 0 mD_move 124 [iR 0, iI 1, iI x2, iI 1, iI x4, iI x5, iR 74, iR 74] [vI (-1000001)] (sI M 69 1 (wr (gI M 69 1 + 1))) _
                refine wq_ireturn (pc := 124) dD_move_124 trivial ?_
                exact H
          · have H := H.2 c5
            refine wq_aload_n (pc := 73) dD_move_73 rfl rfl ?_
            refine wq_ldc (pc := 74) (z := (-1000005)) dD_move_74 kO_D_98 (by decide) ?_
            refine wq_callV (d' := 2) (pc := 76) (as := [vI (-1000005)]) (rest := []) (lo' := [iR 0, iI ((-1000005)), none]) dD_move_76 mO_D_finding lV_D_70 sh_0 (by decide) cl_10 rfl rfl rfl rfl rfl rfl ?_
            refine sp_D_finding (k := 5) (by decide) (by decide) (by decide) hS ?_
            show Wq 3 0 0 mD_move 79 [iR 0, iI 1, iI x2, iI 1, iI x4, iI x5, iR 74, iR 74] [vI (-1000005)] (sI M 69 5 (wr (gI M 69 5 + 1))) _
            refine wq_ireturn (pc := 79) dD_move_79 trivial ?_
            exact H
        · have H := H.2 c4
          refine wq_aload_n (pc := 53) dD_move_53 rfl rfl ?_
          refine wq_ldc (pc := 54) (z := (-1000002)) dD_move_54 kO_D_125 (by decide) ?_
          refine wq_callV (d' := 2) (pc := 56) (as := [vI (-1000002)]) (rest := []) (lo' := [iR 0, iI ((-1000002)), none]) dD_move_56 mO_D_finding lV_D_70 sh_0 (by decide) cl_10 rfl rfl rfl rfl rfl rfl ?_
          refine sp_D_finding (k := 2) (by decide) (by decide) (by decide) hS ?_
          show Wq 3 0 0 mD_move 59 [iR 0, iI 1, iI x2, iI 1, iI x4, iI x5, iR 74, iR 74] [vI (-1000002)] (sI M 69 2 (wr (gI M 69 2 + 1))) _
          refine wq_ireturn (pc := 59) dD_move_59 trivial ?_
          exact H
    · have H := H.2 c2
      show Wq 3 0 0 mD_move 11 [iR 0, iI 1, iI x2, iI 1, iI x4, iI x5, none, none] [vI 0] M _
      refine wq_if_ne (pc := 11) (tgt := 21) dD_move_11 (by decide) (fun q => absurd q (by decide)) (fun _ => ?_)
      refine wq_aload_n (pc := 14) dD_move_14 rfl rfl ?_
      refine wq_ldc (pc := 15) (z := (-1000001)) dD_move_15 kO_D_69 (by decide) ?_
      refine wq_callV (d' := 2) (pc := 17) (as := [vI (-1000001)]) (rest := []) (lo' := [iR 0, iI ((-1000001)), none]) dD_move_17 mO_D_finding lV_D_70 sh_0 (by decide) cl_10 rfl rfl rfl rfl rfl rfl ?_
      refine sp_D_finding (k := 1) (by decide) (by decide) (by decide) hS ?_
      show Wq 3 0 0 mD_move 20 [iR 0, iI 1, iI x2, iI 1, iI x4, iI x5, none, none] [vI (-1000001)] (sI M 69 1 (wr (gI M 69 1 + 1))) _
      refine wq_ireturn (pc := 20) dD_move_20 trivial ?_
      exact H
  · have H := H.2 c1
    show Wq 3 0 0 mD_move 4 [iR 0, iI 1, iI x2, iI 1, iI x4, iI x5, none, none] [vI 0] M _
    refine wq_if_eq (pc := 4) (tgt := 14) dD_move_4 (by decide) (fun _ => ?_) (fun q => absurd (by decide) q)
    refine wq_aload_n (pc := 14) dD_move_14 rfl rfl ?_
    refine wq_ldc (pc := 15) (z := (-1000001)) dD_move_15 kO_D_69 (by decide) ?_
    refine wq_callV (d' := 2) (pc := 17) (as := [vI (-1000001)]) (rest := []) (lo' := [iR 0, iI ((-1000001)), none]) dD_move_17 mO_D_finding lV_D_70 sh_0 (by decide) cl_10 rfl rfl rfl rfl rfl rfl ?_
    refine sp_D_finding (k := 1) (by decide) (by decide) (by decide) hS ?_
    show Wq 3 0 0 mD_move 20 [iR 0, iI 1, iI x2, iI 1, iI x4, iI x5, none, none] [vI (-1000001)] (sI M 69 1 (wr (gI M 69 1 + 1))) _
    refine wq_ireturn (pc := 20) dD_move_20 trivial ?_
    exact H
set_option maxRecDepth 20000 in
theorem B_D_move_s12_0 {x2 x4 x5 : Int} {M : Mm} {Q : Mm → Option Mv → Prop} (hS : RefOK M) (H : ((0 ≤ (1 : Int) ∧ (1 : Int) ≤ 3 → ((0 ≤ (2 : Int) ∧ (2 : Int) ≤ 3 → ((gI M 74 1 = 0 → Q (sI M 69 2 (wr (gI M 69 2 + 1))) (some (vI (-1000002)))) ∧ (¬ gI M 74 1 = 0 → ((¬ gI M 76 1 = 0 → ((gI M 74 1 = gI M 76 1 → ((x5 < 0 → Q (sI M 69 1 (wr (gI M 69 1 + 1))) (some (vI (-1000001)))) ∧ (¬ x5 < 0 → ((-2147483648 ≤ gI M 74 2 - x5 ∧ gI M 74 2 - x5 < 2147483648) ∧ ((0 ≤ x2 ∧ x2 ≤ gI M 74 2 - x5 → ((-2147483648 ≤ gI M 76 2 - x5 ∧ gI M 76 2 - x5 < 2147483648) ∧ ((0 ≤ x4 ∧ x4 ≤ gI M 76 2 - x5 → ((0 ≤ x2 ∧ 0 ≤ x4 ∧ 0 ≤ x5 ∧ x2 + x5 ≤ 24 ∧ x4 + x5 ≤ 24) ∧ Q (cI M 75 x2 77 x4 x5) (some (vI x5)))) ∧ (¬ (0 ≤ x4 ∧ x4 ≤ gI M 76 2 - x5) → Q (sI M 69 1 (wr (gI M 69 1 + 1))) (some (vI (-1000001))))))) ∧ (¬ (0 ≤ x2 ∧ x2 ≤ gI M 74 2 - x5) → Q (sI M 69 1 (wr (gI M 69 1 + 1))) (some (vI (-1000001))))))))) ∧ (¬ gI M 74 1 = gI M 76 1 → Q (sI M 69 5 (wr (gI M 69 5 + 1))) (some (vI (-1000005)))))) ∧ (gI M 76 1 = 0 → Q (sI M 69 2 (wr (gI M 69 2 + 1))) (some (vI (-1000002)))))))) ∧ (¬ (0 ≤ (2 : Int) ∧ (2 : Int) ≤ 3) → Q (sI M 69 1 (wr (gI M 69 1 + 1))) (some (vI (-1000001)))))) ∧ (¬ (0 ≤ (1 : Int) ∧ (1 : Int) ≤ 3) → Q (sI M 69 1 (wr (gI M 69 1 + 1))) (some (vI (-1000001)))))) : Wq 3 0 0 mD_move 0 [iR 0, iI 1, iI x2, iI 2, iI x4, iI x5, none, none] [] M Q := by
  refine wq_iload_n (pc := 0) dD_move_0 rfl rfl ?_
  refine wq_callS (d' := 2) (pc := 1) (as := [vI 1]) (rest := []) (lo' := [iI 1]) dD_move_1 mO_D_isSheet lS_D_284 rfl rfl rfl rfl rfl rfl ?_
  refine sp_D_isSheet (fun c1 => ?_) (fun c1 => ?_)
  · have H := H.1 c1
    show Wq 3 0 0 mD_move 4 [iR 0, iI 1, iI x2, iI 2, iI x4, iI x5, none, none] [vI 1] M _
    refine wq_if_eq (pc := 4) (tgt := 14) dD_move_4 (by decide) (fun q => absurd q (by decide)) (fun _ => ?_)
    refine wq_iload_n (pc := 7) dD_move_7 rfl rfl ?_
    refine wq_callS (d' := 2) (pc := 8) (as := [vI 2]) (rest := []) (lo' := [iI 2]) dD_move_8 mO_D_isSheet lS_D_284 rfl rfl rfl rfl rfl rfl ?_
    refine sp_D_isSheet (fun c2 => ?_) (fun c2 => ?_)
    · have H := H.1 c2
      show Wq 3 0 0 mD_move 11 [iR 0, iI 1, iI x2, iI 2, iI x4, iI x5, none, none] [vI 1] M _
      refine wq_if_ne (pc := 11) (tgt := 21) dD_move_11 (by decide) (fun _ => ?_) (fun q => absurd q (by decide))
      refine wq_aload_n (pc := 21) dD_move_21 rfl rfl ?_
      refine wq_getR (pc := 22) (z := 5) (b := 68) dD_move_22 fO_D_42 sh_0 rfl rfl (rf_0_5 hS) ?_
      refine wq_iload_n (pc := 25) dD_move_25 rfl rfl ?_
      refine wq_aald (pc := 26) (b := 74) dD_move_26 sh_68 (by decide) (by decide) (rf_68_1 hS) ?_
      refine wq_astore (pc := 27) (lo' := [iR 0, iI 1, iI x2, iI 2, iI x4, iI x5, iR 74, none]) dD_move_27 rfl rfl ?_
      refine wq_aload_n (pc := 29) dD_move_29 rfl rfl ?_
      refine wq_getR (pc := 30) (z := 5) (b := 68) dD_move_30 fO_D_42 sh_0 rfl rfl (rf_0_5 hS) ?_
      refine wq_iload_n (pc := 33) dD_move_33 rfl rfl ?_
      refine wq_aald (pc := 34) (b := 76) dD_move_34 sh_68 (by decide) (by decide) (rf_68_2 hS) ?_
      refine wq_astore (pc := 35) (lo' := [iR 0, iI 1, iI x2, iI 2, iI x4, iI x5, iR 74, iR 76]) dD_move_35 rfl rfl ?_
      refine wq_aload (pc := 37) dD_move_37 rfl ?_
      refine wq_getI (pc := 39) (z := 1) dD_move_39 fO_D_287 sh_74 rfl rfl ?_
      refine wq_if_eq (pc := 42) (tgt := 53) dD_move_42 (by decide) (fun c3 => ?_) (fun c3 => ?_)
      · have H := H.1 c3
        refine wq_aload_n (pc := 53) dD_move_53 rfl rfl ?_
        refine wq_ldc (pc := 54) (z := (-1000002)) dD_move_54 kO_D_125 (by decide) ?_
        refine wq_callV (d' := 2) (pc := 56) (as := [vI (-1000002)]) (rest := []) (lo' := [iR 0, iI ((-1000002)), none]) dD_move_56 mO_D_finding lV_D_70 sh_0 (by decide) cl_10 rfl rfl rfl rfl rfl rfl ?_
        refine sp_D_finding (k := 2) (by decide) (by decide) (by decide) hS ?_
        show Wq 3 0 0 mD_move 59 [iR 0, iI 1, iI x2, iI 2, iI x4, iI x5, iR 74, iR 76] [vI (-1000002)] (sI M 69 2 (wr (gI M 69 2 + 1))) _
        refine wq_ireturn (pc := 59) dD_move_59 trivial ?_
        exact H
      · have H := H.2 c3
        refine wq_aload (pc := 45) dD_move_45 rfl ?_
        refine wq_getI (pc := 47) (z := 1) dD_move_47 fO_D_287 sh_76 rfl rfl ?_
        refine wq_if_ne (pc := 50) (tgt := 60) dD_move_50 (by decide) (fun c4 => ?_) (fun c4 => ?_)
        · have H := H.1 c4
          refine wq_aload (pc := 60) dD_move_60 rfl ?_
          refine wq_getI (pc := 62) (z := 1) dD_move_62 fO_D_287 sh_74 rfl rfl ?_
          refine wq_aload (pc := 65) dD_move_65 rfl ?_
          refine wq_getI (pc := 67) (z := 1) dD_move_67 fO_D_287 sh_76 rfl rfl ?_
          refine wq_icmp_eq (pc := 70) (tgt := 80) dD_move_70 (by decide) (fun c5 => ?_) (fun c5 => ?_)
          · have H := H.1 c5
            refine wq_iload (pc := 80) dD_move_80 rfl ?_
            refine wq_if_lt (pc := 82) (tgt := 118) dD_move_82 (by decide) (fun c6 => ?_) (fun c6 => ?_)
            · have H := H.1 c6
              refine wq_aload_n (pc := 118) dD_move_118 rfl rfl ?_
              refine wq_ldc (pc := 119) (z := (-1000001)) dD_move_119 kO_D_69 (by decide) ?_
              refine wq_callV (d' := 2) (pc := 121) (as := [vI (-1000001)]) (rest := []) (lo' := [iR 0, iI ((-1000001)), none]) dD_move_121 mO_D_finding lV_D_70 sh_0 (by decide) cl_10 rfl rfl rfl rfl rfl rfl ?_
              refine sp_D_finding (k := 1) (by decide) (by decide) (by decide) hS ?_
              show Wq 3 0 0 mD_move 124 [iR 0, iI 1, iI x2, iI 2, iI x4, iI x5, iR 74, iR 76] [vI (-1000001)] (sI M 69 1 (wr (gI M 69 1 + 1))) _
              refine wq_ireturn (pc := 124) dD_move_124 trivial ?_
              exact H
            · have H := H.2 c6
              obtain ⟨s7, H⟩ := H
              refine wq_iload_n (pc := 85) dD_move_85 rfl rfl ?_
              refine wq_iconst (pc := 86) dD_move_86 rfl ?_
              refine wq_aload (pc := 87) dD_move_87 rfl ?_
              refine wq_getI (pc := 89) (z := 2) dD_move_89 fO_D_320 sh_74 rfl rfl ?_
              refine wq_iload (pc := 92) dD_move_92 rfl ?_
              refine wq_isub (pc := 94) dD_move_94 ?_
              refine wq_re (x := (wr (gI M 74 2 - x5))) (y := (gI M 74 2 - x5)) (Eq.trans (wr_eq (by omega) (by omega)) (by omega)) ?_
              refine wq_callS (d' := 1) (pc := 95) (as := [vI x2, vI 0, vI (gI M 74 2 - x5)]) (rest := []) (lo' := [iI x2, iI 0, iI (gI M 74 2 - x5)]) dD_move_95 mO_D_within lS_D_65 rfl rfl rfl rfl rfl rfl ?_
              refine sp_D_within (fun c8 => ?_) (fun c8 => ?_)
              · have H := H.1 c8
                show Wq 3 0 0 mD_move 98 [iR 0, iI 1, iI x2, iI 2, iI x4, iI x5, iR 74, iR 76] [vI 1] M _
                obtain ⟨s9, H⟩ := H
                refine wq_if_eq (pc := 98) (tgt := 118) dD_move_98 (by decide) (fun q => absurd q (by decide)) (fun _ => ?_)
                refine wq_iload (pc := 101) dD_move_101 rfl ?_
                refine wq_iconst (pc := 103) dD_move_103 rfl ?_
                refine wq_aload (pc := 104) dD_move_104 rfl ?_
                refine wq_getI (pc := 106) (z := 2) dD_move_106 fO_D_320 sh_76 rfl rfl ?_
                refine wq_iload (pc := 109) dD_move_109 rfl ?_
                refine wq_isub (pc := 111) dD_move_111 ?_
                refine wq_re (x := (wr (gI M 76 2 - x5))) (y := (gI M 76 2 - x5)) (Eq.trans (wr_eq (by omega) (by omega)) (by omega)) ?_
                refine wq_callS (d' := 1) (pc := 112) (as := [vI x4, vI 0, vI (gI M 76 2 - x5)]) (rest := []) (lo' := [iI x4, iI 0, iI (gI M 76 2 - x5)]) dD_move_112 mO_D_within lS_D_65 rfl rfl rfl rfl rfl rfl ?_
                refine sp_D_within (fun c10 => ?_) (fun c10 => ?_)
                · have H := H.1 c10
                  show Wq 3 0 0 mD_move 115 [iR 0, iI 1, iI x2, iI 2, iI x4, iI x5, iR 74, iR 76] [vI 1] M _
                  obtain ⟨s11, H⟩ := H
                  refine wq_if_ne (pc := 115) (tgt := 125) dD_move_115 (by decide) (fun _ => ?_) (fun q => absurd q (by decide))
                  refine wq_aload (pc := 125) dD_move_125 rfl ?_
                  refine wq_getR (pc := 127) (z := 0) (b := 75) dD_move_127 fO_D_294 sh_74 rfl rfl (rf_74_0 hS) ?_
                  refine wq_iload_n (pc := 130) dD_move_130 rfl rfl ?_
                  refine wq_aload (pc := 131) dD_move_131 rfl ?_
                  refine wq_getR (pc := 133) (z := 0) (b := 77) dD_move_133 fO_D_294 sh_76 rfl rfl (rf_76_0 hS) ?_
                  refine wq_iload (pc := 136) dD_move_136 rfl ?_
                  refine wq_iload (pc := 138) dD_move_138 rfl ?_
                  refine wq_cpI (pc := 140) dD_move_140 aC_D_326 (Or.inl ⟨sh_75, sh_77⟩) (by decide) (by decide) s11.1 s11.2.1 s11.2.2.1 (by have := s11; omega) (by have := s11; omega) rfl ?_
                  refine wq_iload (pc := 143) dD_move_143 rfl ?_
                  refine wq_ireturn (pc := 145) dD_move_145 trivial ?_
                  exact H
                · have H := H.2 c10
                  show Wq 3 0 0 mD_move 115 [iR 0, iI 1, iI x2, iI 2, iI x4, iI x5, iR 74, iR 76] [vI 0] M _
                  refine wq_if_ne (pc := 115) (tgt := 125) dD_move_115 (by decide) (fun q => absurd q (by decide)) (fun _ => ?_)
                  refine wq_aload_n (pc := 118) dD_move_118 rfl rfl ?_
                  refine wq_ldc (pc := 119) (z := (-1000001)) dD_move_119 kO_D_69 (by decide) ?_
                  refine wq_callV (d' := 2) (pc := 121) (as := [vI (-1000001)]) (rest := []) (lo' := [iR 0, iI ((-1000001)), none]) dD_move_121 mO_D_finding lV_D_70 sh_0 (by decide) cl_10 rfl rfl rfl rfl rfl rfl ?_
                  refine sp_D_finding (k := 1) (by decide) (by decide) (by decide) hS ?_
                  show Wq 3 0 0 mD_move 124 [iR 0, iI 1, iI x2, iI 2, iI x4, iI x5, iR 74, iR 76] [vI (-1000001)] (sI M 69 1 (wr (gI M 69 1 + 1))) _
                  refine wq_ireturn (pc := 124) dD_move_124 trivial ?_
                  exact H
              · have H := H.2 c8
                show Wq 3 0 0 mD_move 98 [iR 0, iI 1, iI x2, iI 2, iI x4, iI x5, iR 74, iR 76] [vI 0] M _
                refine wq_if_eq (pc := 98) (tgt := 118) dD_move_98 (by decide) (fun _ => ?_) (fun q => absurd (by decide) q)
                refine wq_aload_n (pc := 118) dD_move_118 rfl rfl ?_
                refine wq_ldc (pc := 119) (z := (-1000001)) dD_move_119 kO_D_69 (by decide) ?_
                refine wq_callV (d' := 2) (pc := 121) (as := [vI (-1000001)]) (rest := []) (lo' := [iR 0, iI ((-1000001)), none]) dD_move_121 mO_D_finding lV_D_70 sh_0 (by decide) cl_10 rfl rfl rfl rfl rfl rfl ?_
                refine sp_D_finding (k := 1) (by decide) (by decide) (by decide) hS ?_
                show Wq 3 0 0 mD_move 124 [iR 0, iI 1, iI x2, iI 2, iI x4, iI x5, iR 74, iR 76] [vI (-1000001)] (sI M 69 1 (wr (gI M 69 1 + 1))) _
                refine wq_ireturn (pc := 124) dD_move_124 trivial ?_
                exact H
          · have H := H.2 c5
            refine wq_aload_n (pc := 73) dD_move_73 rfl rfl ?_
            refine wq_ldc (pc := 74) (z := (-1000005)) dD_move_74 kO_D_98 (by decide) ?_
            refine wq_callV (d' := 2) (pc := 76) (as := [vI (-1000005)]) (rest := []) (lo' := [iR 0, iI ((-1000005)), none]) dD_move_76 mO_D_finding lV_D_70 sh_0 (by decide) cl_10 rfl rfl rfl rfl rfl rfl ?_
            refine sp_D_finding (k := 5) (by decide) (by decide) (by decide) hS ?_
            show Wq 3 0 0 mD_move 79 [iR 0, iI 1, iI x2, iI 2, iI x4, iI x5, iR 74, iR 76] [vI (-1000005)] (sI M 69 5 (wr (gI M 69 5 + 1))) _
            refine wq_ireturn (pc := 79) dD_move_79 trivial ?_
            exact H
        · have H := H.2 c4
          refine wq_aload_n (pc := 53) dD_move_53 rfl rfl ?_
          refine wq_ldc (pc := 54) (z := (-1000002)) dD_move_54 kO_D_125 (by decide) ?_
          refine wq_callV (d' := 2) (pc := 56) (as := [vI (-1000002)]) (rest := []) (lo' := [iR 0, iI ((-1000002)), none]) dD_move_56 mO_D_finding lV_D_70 sh_0 (by decide) cl_10 rfl rfl rfl rfl rfl rfl ?_
          refine sp_D_finding (k := 2) (by decide) (by decide) (by decide) hS ?_
          show Wq 3 0 0 mD_move 59 [iR 0, iI 1, iI x2, iI 2, iI x4, iI x5, iR 74, iR 76] [vI (-1000002)] (sI M 69 2 (wr (gI M 69 2 + 1))) _
          refine wq_ireturn (pc := 59) dD_move_59 trivial ?_
          exact H
    · have H := H.2 c2
      show Wq 3 0 0 mD_move 11 [iR 0, iI 1, iI x2, iI 2, iI x4, iI x5, none, none] [vI 0] M _
      refine wq_if_ne (pc := 11) (tgt := 21) dD_move_11 (by decide) (fun q => absurd q (by decide)) (fun _ => ?_)
      refine wq_aload_n (pc := 14) dD_move_14 rfl rfl ?_
      refine wq_ldc (pc := 15) (z := (-1000001)) dD_move_15 kO_D_69 (by decide) ?_
      refine wq_callV (d' := 2) (pc := 17) (as := [vI (-1000001)]) (rest := []) (lo' := [iR 0, iI ((-1000001)), none]) dD_move_17 mO_D_finding lV_D_70 sh_0 (by decide) cl_10 rfl rfl rfl rfl rfl rfl ?_
      refine sp_D_finding (k := 1) (by decide) (by decide) (by decide) hS ?_
      show Wq 3 0 0 mD_move 20 [iR 0, iI 1, iI x2, iI 2, iI x4, iI x5, none, none] [vI (-1000001)] (sI M 69 1 (wr (gI M 69 1 + 1))) _
      refine wq_ireturn (pc := 20) dD_move_20 trivial ?_
      exact H
  · have H := H.2 c1
    show Wq 3 0 0 mD_move 4 [iR 0, iI 1, iI x2, iI 2, iI x4, iI x5, none, none] [vI 0] M _
    refine wq_if_eq (pc := 4) (tgt := 14) dD_move_4 (by decide) (fun _ => ?_) (fun q => absurd (by decide) q)
    refine wq_aload_n (pc := 14) dD_move_14 rfl rfl ?_
    refine wq_ldc (pc := 15) (z := (-1000001)) dD_move_15 kO_D_69 (by decide) ?_
    refine wq_callV (d' := 2) (pc := 17) (as := [vI (-1000001)]) (rest := []) (lo' := [iR 0, iI ((-1000001)), none]) dD_move_17 mO_D_finding lV_D_70 sh_0 (by decide) cl_10 rfl rfl rfl rfl rfl rfl ?_
    refine sp_D_finding (k := 1) (by decide) (by decide) (by decide) hS ?_
    show Wq 3 0 0 mD_move 20 [iR 0, iI 1, iI x2, iI 2, iI x4, iI x5, none, none] [vI (-1000001)] (sI M 69 1 (wr (gI M 69 1 + 1))) _
    refine wq_ireturn (pc := 20) dD_move_20 trivial ?_
    exact H
set_option maxRecDepth 20000 in
theorem B_D_move_s13_0 {x2 x4 x5 : Int} {M : Mm} {Q : Mm → Option Mv → Prop} (hS : RefOK M) (H : ((0 ≤ (1 : Int) ∧ (1 : Int) ≤ 3 → ((0 ≤ (3 : Int) ∧ (3 : Int) ≤ 3 → ((gI M 74 1 = 0 → Q (sI M 69 2 (wr (gI M 69 2 + 1))) (some (vI (-1000002)))) ∧ (¬ gI M 74 1 = 0 → ((¬ gI M 78 1 = 0 → ((gI M 74 1 = gI M 78 1 → ((x5 < 0 → Q (sI M 69 1 (wr (gI M 69 1 + 1))) (some (vI (-1000001)))) ∧ (¬ x5 < 0 → ((-2147483648 ≤ gI M 74 2 - x5 ∧ gI M 74 2 - x5 < 2147483648) ∧ ((0 ≤ x2 ∧ x2 ≤ gI M 74 2 - x5 → ((-2147483648 ≤ gI M 78 2 - x5 ∧ gI M 78 2 - x5 < 2147483648) ∧ ((0 ≤ x4 ∧ x4 ≤ gI M 78 2 - x5 → ((0 ≤ x2 ∧ 0 ≤ x4 ∧ 0 ≤ x5 ∧ x2 + x5 ≤ 24 ∧ x4 + x5 ≤ 24) ∧ Q (cI M 75 x2 79 x4 x5) (some (vI x5)))) ∧ (¬ (0 ≤ x4 ∧ x4 ≤ gI M 78 2 - x5) → Q (sI M 69 1 (wr (gI M 69 1 + 1))) (some (vI (-1000001))))))) ∧ (¬ (0 ≤ x2 ∧ x2 ≤ gI M 74 2 - x5) → Q (sI M 69 1 (wr (gI M 69 1 + 1))) (some (vI (-1000001))))))))) ∧ (¬ gI M 74 1 = gI M 78 1 → Q (sI M 69 5 (wr (gI M 69 5 + 1))) (some (vI (-1000005)))))) ∧ (gI M 78 1 = 0 → Q (sI M 69 2 (wr (gI M 69 2 + 1))) (some (vI (-1000002)))))))) ∧ (¬ (0 ≤ (3 : Int) ∧ (3 : Int) ≤ 3) → Q (sI M 69 1 (wr (gI M 69 1 + 1))) (some (vI (-1000001)))))) ∧ (¬ (0 ≤ (1 : Int) ∧ (1 : Int) ≤ 3) → Q (sI M 69 1 (wr (gI M 69 1 + 1))) (some (vI (-1000001)))))) : Wq 3 0 0 mD_move 0 [iR 0, iI 1, iI x2, iI 3, iI x4, iI x5, none, none] [] M Q := by
  refine wq_iload_n (pc := 0) dD_move_0 rfl rfl ?_
  refine wq_callS (d' := 2) (pc := 1) (as := [vI 1]) (rest := []) (lo' := [iI 1]) dD_move_1 mO_D_isSheet lS_D_284 rfl rfl rfl rfl rfl rfl ?_
  refine sp_D_isSheet (fun c1 => ?_) (fun c1 => ?_)
  · have H := H.1 c1
    show Wq 3 0 0 mD_move 4 [iR 0, iI 1, iI x2, iI 3, iI x4, iI x5, none, none] [vI 1] M _
    refine wq_if_eq (pc := 4) (tgt := 14) dD_move_4 (by decide) (fun q => absurd q (by decide)) (fun _ => ?_)
    refine wq_iload_n (pc := 7) dD_move_7 rfl rfl ?_
    refine wq_callS (d' := 2) (pc := 8) (as := [vI 3]) (rest := []) (lo' := [iI 3]) dD_move_8 mO_D_isSheet lS_D_284 rfl rfl rfl rfl rfl rfl ?_
    refine sp_D_isSheet (fun c2 => ?_) (fun c2 => ?_)
    · have H := H.1 c2
      show Wq 3 0 0 mD_move 11 [iR 0, iI 1, iI x2, iI 3, iI x4, iI x5, none, none] [vI 1] M _
      refine wq_if_ne (pc := 11) (tgt := 21) dD_move_11 (by decide) (fun _ => ?_) (fun q => absurd q (by decide))
      refine wq_aload_n (pc := 21) dD_move_21 rfl rfl ?_
      refine wq_getR (pc := 22) (z := 5) (b := 68) dD_move_22 fO_D_42 sh_0 rfl rfl (rf_0_5 hS) ?_
      refine wq_iload_n (pc := 25) dD_move_25 rfl rfl ?_
      refine wq_aald (pc := 26) (b := 74) dD_move_26 sh_68 (by decide) (by decide) (rf_68_1 hS) ?_
      refine wq_astore (pc := 27) (lo' := [iR 0, iI 1, iI x2, iI 3, iI x4, iI x5, iR 74, none]) dD_move_27 rfl rfl ?_
      refine wq_aload_n (pc := 29) dD_move_29 rfl rfl ?_
      refine wq_getR (pc := 30) (z := 5) (b := 68) dD_move_30 fO_D_42 sh_0 rfl rfl (rf_0_5 hS) ?_
      refine wq_iload_n (pc := 33) dD_move_33 rfl rfl ?_
      refine wq_aald (pc := 34) (b := 78) dD_move_34 sh_68 (by decide) (by decide) (rf_68_3 hS) ?_
      refine wq_astore (pc := 35) (lo' := [iR 0, iI 1, iI x2, iI 3, iI x4, iI x5, iR 74, iR 78]) dD_move_35 rfl rfl ?_
      refine wq_aload (pc := 37) dD_move_37 rfl ?_
      refine wq_getI (pc := 39) (z := 1) dD_move_39 fO_D_287 sh_74 rfl rfl ?_
      refine wq_if_eq (pc := 42) (tgt := 53) dD_move_42 (by decide) (fun c3 => ?_) (fun c3 => ?_)
      · have H := H.1 c3
        refine wq_aload_n (pc := 53) dD_move_53 rfl rfl ?_
        refine wq_ldc (pc := 54) (z := (-1000002)) dD_move_54 kO_D_125 (by decide) ?_
        refine wq_callV (d' := 2) (pc := 56) (as := [vI (-1000002)]) (rest := []) (lo' := [iR 0, iI ((-1000002)), none]) dD_move_56 mO_D_finding lV_D_70 sh_0 (by decide) cl_10 rfl rfl rfl rfl rfl rfl ?_
        refine sp_D_finding (k := 2) (by decide) (by decide) (by decide) hS ?_
        show Wq 3 0 0 mD_move 59 [iR 0, iI 1, iI x2, iI 3, iI x4, iI x5, iR 74, iR 78] [vI (-1000002)] (sI M 69 2 (wr (gI M 69 2 + 1))) _
        refine wq_ireturn (pc := 59) dD_move_59 trivial ?_
        exact H
      · have H := H.2 c3
        refine wq_aload (pc := 45) dD_move_45 rfl ?_
        refine wq_getI (pc := 47) (z := 1) dD_move_47 fO_D_287 sh_78 rfl rfl ?_
        refine wq_if_ne (pc := 50) (tgt := 60) dD_move_50 (by decide) (fun c4 => ?_) (fun c4 => ?_)
        · have H := H.1 c4
          refine wq_aload (pc := 60) dD_move_60 rfl ?_
          refine wq_getI (pc := 62) (z := 1) dD_move_62 fO_D_287 sh_74 rfl rfl ?_
          refine wq_aload (pc := 65) dD_move_65 rfl ?_
          refine wq_getI (pc := 67) (z := 1) dD_move_67 fO_D_287 sh_78 rfl rfl ?_
          refine wq_icmp_eq (pc := 70) (tgt := 80) dD_move_70 (by decide) (fun c5 => ?_) (fun c5 => ?_)
          · have H := H.1 c5
            refine wq_iload (pc := 80) dD_move_80 rfl ?_
            refine wq_if_lt (pc := 82) (tgt := 118) dD_move_82 (by decide) (fun c6 => ?_) (fun c6 => ?_)
            · have H := H.1 c6
              refine wq_aload_n (pc := 118) dD_move_118 rfl rfl ?_
              refine wq_ldc (pc := 119) (z := (-1000001)) dD_move_119 kO_D_69 (by decide) ?_
              refine wq_callV (d' := 2) (pc := 121) (as := [vI (-1000001)]) (rest := []) (lo' := [iR 0, iI ((-1000001)), none]) dD_move_121 mO_D_finding lV_D_70 sh_0 (by decide) cl_10 rfl rfl rfl rfl rfl rfl ?_
              refine sp_D_finding (k := 1) (by decide) (by decide) (by decide) hS ?_
              show Wq 3 0 0 mD_move 124 [iR 0, iI 1, iI x2, iI 3, iI x4, iI x5, iR 74, iR 78] [vI (-1000001)] (sI M 69 1 (wr (gI M 69 1 + 1))) _
              refine wq_ireturn (pc := 124) dD_move_124 trivial ?_
              exact H
            · have H := H.2 c6
              obtain ⟨s7, H⟩ := H
              refine wq_iload_n (pc := 85) dD_move_85 rfl rfl ?_
              refine wq_iconst (pc := 86) dD_move_86 rfl ?_
              refine wq_aload (pc := 87) dD_move_87 rfl ?_
              refine wq_getI (pc := 89) (z := 2) dD_move_89 fO_D_320 sh_74 rfl rfl ?_
              refine wq_iload (pc := 92) dD_move_92 rfl ?_
              refine wq_isub (pc := 94) dD_move_94 ?_
              refine wq_re (x := (wr (gI M 74 2 - x5))) (y := (gI M 74 2 - x5)) (Eq.trans (wr_eq (by omega) (by omega)) (by omega)) ?_
              refine wq_callS (d' := 1) (pc := 95) (as := [vI x2, vI 0, vI (gI M 74 2 - x5)]) (rest := []) (lo' := [iI x2, iI 0, iI (gI M 74 2 - x5)]) dD_move_95 mO_D_within lS_D_65 rfl rfl rfl rfl rfl rfl ?_
              refine sp_D_within (fun c8 => ?_) (fun c8 => ?_)
              · have H := H.1 c8
                show Wq 3 0 0 mD_move 98 [iR 0, iI 1, iI x2, iI 3, iI x4, iI x5, iR 74, iR 78] [vI 1] M _
                obtain ⟨s9, H⟩ := H
                refine wq_if_eq (pc := 98) (tgt := 118) dD_move_98 (by decide) (fun q => absurd q (by decide)) (fun _ => ?_)
                refine wq_iload (pc := 101) dD_move_101 rfl ?_
                refine wq_iconst (pc := 103) dD_move_103 rfl ?_
                refine wq_aload (pc := 104) dD_move_104 rfl ?_
                refine wq_getI (pc := 106) (z := 2) dD_move_106 fO_D_320 sh_78 rfl rfl ?_
                refine wq_iload (pc := 109) dD_move_109 rfl ?_
                refine wq_isub (pc := 111) dD_move_111 ?_
                refine wq_re (x := (wr (gI M 78 2 - x5))) (y := (gI M 78 2 - x5)) (Eq.trans (wr_eq (by omega) (by omega)) (by omega)) ?_
                refine wq_callS (d' := 1) (pc := 112) (as := [vI x4, vI 0, vI (gI M 78 2 - x5)]) (rest := []) (lo' := [iI x4, iI 0, iI (gI M 78 2 - x5)]) dD_move_112 mO_D_within lS_D_65 rfl rfl rfl rfl rfl rfl ?_
                refine sp_D_within (fun c10 => ?_) (fun c10 => ?_)
                · have H := H.1 c10
                  show Wq 3 0 0 mD_move 115 [iR 0, iI 1, iI x2, iI 3, iI x4, iI x5, iR 74, iR 78] [vI 1] M _
                  obtain ⟨s11, H⟩ := H
                  refine wq_if_ne (pc := 115) (tgt := 125) dD_move_115 (by decide) (fun _ => ?_) (fun q => absurd q (by decide))
                  refine wq_aload (pc := 125) dD_move_125 rfl ?_
                  refine wq_getR (pc := 127) (z := 0) (b := 75) dD_move_127 fO_D_294 sh_74 rfl rfl (rf_74_0 hS) ?_
                  refine wq_iload_n (pc := 130) dD_move_130 rfl rfl ?_
                  refine wq_aload (pc := 131) dD_move_131 rfl ?_
                  refine wq_getR (pc := 133) (z := 0) (b := 79) dD_move_133 fO_D_294 sh_78 rfl rfl (rf_78_0 hS) ?_
                  refine wq_iload (pc := 136) dD_move_136 rfl ?_
                  refine wq_iload (pc := 138) dD_move_138 rfl ?_
                  refine wq_cpI (pc := 140) dD_move_140 aC_D_326 (Or.inl ⟨sh_75, sh_79⟩) (by decide) (by decide) s11.1 s11.2.1 s11.2.2.1 (by have := s11; omega) (by have := s11; omega) rfl ?_
                  refine wq_iload (pc := 143) dD_move_143 rfl ?_
                  refine wq_ireturn (pc := 145) dD_move_145 trivial ?_
                  exact H
                · have H := H.2 c10
                  show Wq 3 0 0 mD_move 115 [iR 0, iI 1, iI x2, iI 3, iI x4, iI x5, iR 74, iR 78] [vI 0] M _
                  refine wq_if_ne (pc := 115) (tgt := 125) dD_move_115 (by decide) (fun q => absurd q (by decide)) (fun _ => ?_)
                  refine wq_aload_n (pc := 118) dD_move_118 rfl rfl ?_
                  refine wq_ldc (pc := 119) (z := (-1000001)) dD_move_119 kO_D_69 (by decide) ?_
                  refine wq_callV (d' := 2) (pc := 121) (as := [vI (-1000001)]) (rest := []) (lo' := [iR 0, iI ((-1000001)), none]) dD_move_121 mO_D_finding lV_D_70 sh_0 (by decide) cl_10 rfl rfl rfl rfl rfl rfl ?_
                  refine sp_D_finding (k := 1) (by decide) (by decide) (by decide) hS ?_
                  show Wq 3 0 0 mD_move 124 [iR 0, iI 1, iI x2, iI 3, iI x4, iI x5, iR 74, iR 78] [vI (-1000001)] (sI M 69 1 (wr (gI M 69 1 + 1))) _
                  refine wq_ireturn (pc := 124) dD_move_124 trivial ?_
                  exact H
              · have H := H.2 c8
                show Wq 3 0 0 mD_move 98 [iR 0, iI 1, iI x2, iI 3, iI x4, iI x5, iR 74, iR 78] [vI 0] M _
                refine wq_if_eq (pc := 98) (tgt := 118) dD_move_98 (by decide) (fun _ => ?_) (fun q => absurd (by decide) q)
                refine wq_aload_n (pc := 118) dD_move_118 rfl rfl ?_
                refine wq_ldc (pc := 119) (z := (-1000001)) dD_move_119 kO_D_69 (by decide) ?_
                refine wq_callV (d' := 2) (pc := 121) (as := [vI (-1000001)]) (rest := []) (lo' := [iR 0, iI ((-1000001)), none]) dD_move_121 mO_D_finding lV_D_70 sh_0 (by decide) cl_10 rfl rfl rfl rfl rfl rfl ?_
                refine sp_D_finding (k := 1) (by decide) (by decide) (by decide) hS ?_
                show Wq 3 0 0 mD_move 124 [iR 0, iI 1, iI x2, iI 3, iI x4, iI x5, iR 74, iR 78] [vI (-1000001)] (sI M 69 1 (wr (gI M 69 1 + 1))) _
                refine wq_ireturn (pc := 124) dD_move_124 trivial ?_
                exact H
          · have H := H.2 c5
            refine wq_aload_n (pc := 73) dD_move_73 rfl rfl ?_
            refine wq_ldc (pc := 74) (z := (-1000005)) dD_move_74 kO_D_98 (by decide) ?_
            refine wq_callV (d' := 2) (pc := 76) (as := [vI (-1000005)]) (rest := []) (lo' := [iR 0, iI ((-1000005)), none]) dD_move_76 mO_D_finding lV_D_70 sh_0 (by decide) cl_10 rfl rfl rfl rfl rfl rfl ?_
            refine sp_D_finding (k := 5) (by decide) (by decide) (by decide) hS ?_
            show Wq 3 0 0 mD_move 79 [iR 0, iI 1, iI x2, iI 3, iI x4, iI x5, iR 74, iR 78] [vI (-1000005)] (sI M 69 5 (wr (gI M 69 5 + 1))) _
            refine wq_ireturn (pc := 79) dD_move_79 trivial ?_
            exact H
        · have H := H.2 c4
          refine wq_aload_n (pc := 53) dD_move_53 rfl rfl ?_
          refine wq_ldc (pc := 54) (z := (-1000002)) dD_move_54 kO_D_125 (by decide) ?_
          refine wq_callV (d' := 2) (pc := 56) (as := [vI (-1000002)]) (rest := []) (lo' := [iR 0, iI ((-1000002)), none]) dD_move_56 mO_D_finding lV_D_70 sh_0 (by decide) cl_10 rfl rfl rfl rfl rfl rfl ?_
          refine sp_D_finding (k := 2) (by decide) (by decide) (by decide) hS ?_
          show Wq 3 0 0 mD_move 59 [iR 0, iI 1, iI x2, iI 3, iI x4, iI x5, iR 74, iR 78] [vI (-1000002)] (sI M 69 2 (wr (gI M 69 2 + 1))) _
          refine wq_ireturn (pc := 59) dD_move_59 trivial ?_
          exact H
    · have H := H.2 c2
      show Wq 3 0 0 mD_move 11 [iR 0, iI 1, iI x2, iI 3, iI x4, iI x5, none, none] [vI 0] M _
      refine wq_if_ne (pc := 11) (tgt := 21) dD_move_11 (by decide) (fun q => absurd q (by decide)) (fun _ => ?_)
      refine wq_aload_n (pc := 14) dD_move_14 rfl rfl ?_
      refine wq_ldc (pc := 15) (z := (-1000001)) dD_move_15 kO_D_69 (by decide) ?_
      refine wq_callV (d' := 2) (pc := 17) (as := [vI (-1000001)]) (rest := []) (lo' := [iR 0, iI ((-1000001)), none]) dD_move_17 mO_D_finding lV_D_70 sh_0 (by decide) cl_10 rfl rfl rfl rfl rfl rfl ?_
      refine sp_D_finding (k := 1) (by decide) (by decide) (by decide) hS ?_
      show Wq 3 0 0 mD_move 20 [iR 0, iI 1, iI x2, iI 3, iI x4, iI x5, none, none] [vI (-1000001)] (sI M 69 1 (wr (gI M 69 1 + 1))) _
      refine wq_ireturn (pc := 20) dD_move_20 trivial ?_
      exact H
  · have H := H.2 c1
    show Wq 3 0 0 mD_move 4 [iR 0, iI 1, iI x2, iI 3, iI x4, iI x5, none, none] [vI 0] M _
    refine wq_if_eq (pc := 4) (tgt := 14) dD_move_4 (by decide) (fun _ => ?_) (fun q => absurd (by decide) q)
    refine wq_aload_n (pc := 14) dD_move_14 rfl rfl ?_
    refine wq_ldc (pc := 15) (z := (-1000001)) dD_move_15 kO_D_69 (by decide) ?_
    refine wq_callV (d' := 2) (pc := 17) (as := [vI (-1000001)]) (rest := []) (lo' := [iR 0, iI ((-1000001)), none]) dD_move_17 mO_D_finding lV_D_70 sh_0 (by decide) cl_10 rfl rfl rfl rfl rfl rfl ?_
    refine sp_D_finding (k := 1) (by decide) (by decide) (by decide) hS ?_
    show Wq 3 0 0 mD_move 20 [iR 0, iI 1, iI x2, iI 3, iI x4, iI x5, none, none] [vI (-1000001)] (sI M 69 1 (wr (gI M 69 1 + 1))) _
    refine wq_ireturn (pc := 20) dD_move_20 trivial ?_
    exact H
set_option maxRecDepth 20000 in
theorem B_S_renew_s1_0 {x1 x2 : Int} {M : Mm} {Q : Mm → Option Mv → Prop} (H : Wq 1 0 0 mS_renew 12 [iR 74, iI x1, iI x2, iI 0] [] (sI (sI M 74 1 x1) 74 2 x2) Q) : Wq 1 0 0 mS_renew 0 [iR 74, iI x1, iI x2, none] [] M Q := by
  refine wq_aload_n (pc := 0) dS_renew_0 rfl rfl ?_
  refine wq_iload_n (pc := 1) dS_renew_1 rfl rfl ?_
  refine wq_putI (pc := 2) (z := 1) dS_renew_2 fW_S_15 sh_74 rfl rfl ?_
  refine wq_aload_n (pc := 5) dS_renew_5 rfl rfl ?_
  refine wq_iload_n (pc := 6) dS_renew_6 rfl rfl ?_
  refine wq_putI (pc := 7) (z := 2) dS_renew_7 fW_S_19 sh_74 rfl rfl ?_
  refine wq_iconst (pc := 10) dS_renew_10 rfl ?_
  refine wq_istore_n (pc := 11) (lo' := [iR 74, iI x1, iI x2, iI 0]) dS_renew_11 rfl rfl rfl ?_
  exact H

set_option maxRecDepth 20000 in
theorem B_S_renew_s1_12 {x1 x2 x3 : Int} {M : Mm} {Q : Mm → Option Mv → Prop} (hS : RefOK M) (H : ((24 ≤ x3 → Q M none) ∧ (¬ 24 ≤ x3 → (((0 ≤ x3 ∧ x3 < 24) ∧ (-2147483648 ≤ x3 + 1 ∧ x3 + 1 < 2147483648)) ∧ Wq 1 0 0 mS_renew 12 [iR 74, iI x1, iI x2, iI (x3 + 1)] [] (sI M 75 x3 0) Q)))) : Wq 1 0 0 mS_renew 12 [iR 74, iI x1, iI x2, iI x3] [] M Q := by
  refine wq_iload_n (pc := 12) dS_renew_12 rfl rfl ?_
  refine wq_bipush (pc := 13) dS_renew_13 rfl ?_
  refine wq_icmp_ge (pc := 15) (tgt := 31) dS_renew_15 (by decide) (fun c1 => ?_) (fun c1 => ?_)
  · have H := H.1 c1
    refine wq_return (pc := 31) dS_renew_31 trivial ?_
    exact H
  · have H := H.2 c1
    obtain ⟨⟨s2, s3⟩, H⟩ := H
    refine wq_aload_n (pc := 18) dS_renew_18 rfl rfl ?_
    refine wq_getR (pc := 19) (z := 0) (b := 75) dS_renew_19 fO_S_9 sh_74 rfl rfl (rf_74_0 hS) ?_
    refine wq_iload_n (pc := 22) dS_renew_22 rfl rfl ?_
    refine wq_iconst (pc := 23) dS_renew_23 rfl ?_
    refine wq_iast (pc := 24) dS_renew_24 sh_75 (by decide) s2.1 s2.2 ?_
    refine wq_iinc (pc := 25) (lo' := [iR 74, iI x1, iI x2, iI (x3 + 1)]) dS_renew_25 rfl rfl (by rw [show wr (x3 + 1) = x3 + 1 from (Eq.trans (wr_eq (by omega) (by omega)) (by omega))]; rfl) ?_
    refine wq_goto (pc := 28) (tgt := 12) dS_renew_28 (by decide) ?_
    exact H
set_option maxRecDepth 20000 in
theorem B_S_cut_s1_0 {x1 : Int} {M : Mm} {Q : Mm → Option Mv → Prop} (H : ((¬ gI M 74 1 = 8 → ((¬ gI M 74 1 = 16 → Q M (some (vI x1))) ∧ (gI M 74 1 = 16 → Q M (some (vI (bS x1)))))) ∧ (gI M 74 1 = 8 → Q M (some (vI (bB x1)))))) : Wq 1 0 0 mS_cut 0 [iR 74, iI x1] [] M Q := by
  refine wq_aload_n (pc := 0) dS_cut_0 rfl rfl ?_
  refine wq_getI (pc := 1) (z := 1) dS_cut_1 fO_S_15 sh_74 rfl rfl ?_
  refine wq_bipush (pc := 4) dS_cut_4 rfl ?_
  refine wq_icmp_ne (pc := 6) (tgt := 12) dS_cut_6 (by decide) (fun c1 => ?_) (fun c1 => ?_)
  · have H := H.1 c1
    refine wq_aload_n (pc := 12) dS_cut_12 rfl rfl ?_
    refine wq_getI (pc := 13) (z := 1) dS_cut_13 fO_S_15 sh_74 rfl rfl ?_
    refine wq_bipush (pc := 16) dS_cut_16 rfl ?_
    refine wq_icmp_ne (pc := 18) (tgt := 26) dS_cut_18 (by decide) (fun c2 => ?_) (fun c2 => ?_)
    · have H := H.1 c2
      refine wq_iload_n (pc := 26) dS_cut_26 rfl rfl ?_
      refine wq_ireturn (pc := 27) dS_cut_27 trivial ?_
      exact H
    · have H := H.2 c2
      refine wq_iload_n (pc := 21) dS_cut_21 rfl rfl ?_
      refine wq_i2s (pc := 22) dS_cut_22 ?_
      refine wq_goto (pc := 23) (tgt := 27) dS_cut_23 (by decide) ?_
      refine wq_ireturn (pc := 27) dS_cut_27 trivial ?_
      exact H
  · have H := H.2 c1
    refine wq_iload_n (pc := 9) dS_cut_9 rfl rfl ?_
    refine wq_i2b (pc := 10) dS_cut_10 ?_
    refine wq_ireturn (pc := 11) dS_cut_11 trivial ?_
    exact H
set_option maxRecDepth 20000 in
theorem B_D_sheet_s2_0 {x2 x3 : Int} {M : Mm} {Q : Mm → Option Mv → Prop} (hS : RefOK M) (H : ((0 ≤ (2 : Int) ∧ (2 : Int) ≤ 3 → ((x2 = 0 → ((x2 = 0 → ((x2 = 0 → ((¬ x2 = 0 → Wq 1 0 0 mS_renew 0 [iR 76, iI x2, iI x3, none] [] M (fun M' v => Wq 3 0 0 mD_sheet 87 [iR 0, iI 2, iI x2, iI x3] (v.toList ++ []) M' Q)) ∧ (x2 = 0 → Wq 1 0 0 mS_renew 0 [iR 76, iI x2, iI 0, none] [] M (fun M' v => Wq 3 0 0 mD_sheet 87 [iR 0, iI 2, iI x2, iI x3] (v.toList ++ []) M' Q)))) ∧ (¬ x2 = 0 → ((x3 ≤ 24 → ((¬ x2 = 0 → Wq 1 0 0 mS_renew 0 [iR 76, iI x2, iI x3, none] [] M (fun M' v => Wq 3 0 0 mD_sheet 87 [iR 0, iI 2, iI x2, iI x3] (v.toList ++ []) M' Q)) ∧ (x2 = 0 → Wq 1 0 0 mS_renew 0 [iR 76, iI x2, iI 0, none] [] M (fun M' v => Wq 3 0 0 mD_sheet 87 [iR 0, iI 2, iI x2, iI x3] (v.toList ++ []) M' Q)))) ∧ (¬ x3 ≤ 24 → Q (sI M 69 1 (wr (gI M 69 1 + 1))) (some (vI (-1000001)))))))) ∧ (¬ x2 = 0 → ((0 ≤ x3 → ((x2 = 0 → ((¬ x2 = 0 → Wq 1 0 0 mS_renew 0 [iR 76, iI x2, iI x3, none] [] M (fun M' v => Wq 3 0 0 mD_sheet 87 [iR 0, iI 2, iI x2, iI x3] (v.toList ++ []) M' Q)) ∧ (x2 = 0 → Wq 1 0 0 mS_renew 0 [iR 76, iI x2, iI 0, none] [] M (fun M' v => Wq 3 0 0 mD_sheet 87 [iR 0, iI 2, iI x2, iI x3] (v.toList ++ []) M' Q)))) ∧ (¬ x2 = 0 → ((x3 ≤ 24 → ((¬ x2 = 0 → Wq 1 0 0 mS_renew 0 [iR 76, iI x2, iI x3, none] [] M (fun M' v => Wq 3 0 0 mD_sheet 87 [iR 0, iI 2, iI x2, iI x3] (v.toList ++ []) M' Q)) ∧ (x2 = 0 → Wq 1 0 0 mS_renew 0 [iR 76, iI x2, iI 0, none] [] M (fun M' v => Wq 3 0 0 mD_sheet 87 [iR 0, iI 2, iI x2, iI x3] (v.toList ++ []) M' Q)))) ∧ (¬ x3 ≤ 24 → Q (sI M 69 1 (wr (gI M 69 1 + 1))) (some (vI (-1000001)))))))) ∧ (¬ 0 ≤ x3 → Q (sI M 69 3 (wr (gI M 69 3 + 1))) (some (vI (-1000003)))))))) ∧ (¬ x2 = 0 → ((x2 = 8 → ((x2 = 0 → ((x2 = 0 → ((¬ x2 = 0 → Wq 1 0 0 mS_renew 0 [iR 76, iI x2, iI x3, none] [] M (fun M' v => Wq 3 0 0 mD_sheet 87 [iR 0, iI 2, iI x2, iI x3] (v.toList ++ []) M' Q)) ∧ (x2 = 0 → Wq 1 0 0 mS_renew 0 [iR 76, iI x2, iI 0, none] [] M (fun M' v => Wq 3 0 0 mD_sheet 87 [iR 0, iI 2, iI x2, iI x3] (v.toList ++ []) M' Q)))) ∧ (¬ x2 = 0 → ((x3 ≤ 24 → ((¬ x2 = 0 → Wq 1 0 0 mS_renew 0 [iR 76, iI x2, iI x3, none] [] M (fun M' v => Wq 3 0 0 mD_sheet 87 [iR 0, iI 2, iI x2, iI x3] (v.toList ++ []) M' Q)) ∧ (x2 = 0 → Wq 1 0 0 mS_renew 0 [iR 76, iI x2, iI 0, none] [] M (fun M' v => Wq 3 0 0 mD_sheet 87 [iR 0, iI 2, iI x2, iI x3] (v.toList ++ []) M' Q)))) ∧ (¬ x3 ≤ 24 → Q (sI M 69 1 (wr (gI M 69 1 + 1))) (some (vI (-1000001)))))))) ∧ (¬ x2 = 0 → ((0 ≤ x3 → ((x2 = 0 → ((¬ x2 = 0 → Wq 1 0 0 mS_renew 0 [iR 76, iI x2, iI x3, none] [] M (fun M' v => Wq 3 0 0 mD_sheet 87 [iR 0, iI 2, iI x2, iI x3] (v.toList ++ []) M' Q)) ∧ (x2 = 0 → Wq 1 0 0 mS_renew 0 [iR 76, iI x2, iI 0, none] [] M (fun M' v => Wq 3 0 0 mD_sheet 87 [iR 0, iI 2, iI x2, iI x3] (v.toList ++ []) M' Q)))) ∧ (¬ x2 = 0 → ((x3 ≤ 24 → ((¬ x2 = 0 → Wq 1 0 0 mS_renew 0 [iR 76, iI x2, iI x3, none] [] M (fun M' v => Wq 3 0 0 mD_sheet 87 [iR 0, iI 2, iI x2, iI x3] (v.toList ++ []) M' Q)) ∧ (x2 = 0 → Wq 1 0 0 mS_renew 0 [iR 76, iI x2, iI 0, none] [] M (fun M' v => Wq 3 0 0 mD_sheet 87 [iR 0, iI 2, iI x2, iI x3] (v.toList ++ []) M' Q)))) ∧ (¬ x3 ≤ 24 → Q (sI M 69 1 (wr (gI M 69 1 + 1))) (some (vI (-1000001)))))))) ∧ (¬ 0 ≤ x3 → Q (sI M 69 3 (wr (gI M 69 3 + 1))) (some (vI (-1000003)))))))) ∧ (¬ x2 = 8 → ((x2 = 16 → ((x2 = 0 → ((x2 = 0 → ((¬ x2 = 0 → Wq 1 0 0 mS_renew 0 [iR 76, iI x2, iI x3, none] [] M (fun M' v => Wq 3 0 0 mD_sheet 87 [iR 0, iI 2, iI x2, iI x3] (v.toList ++ []) M' Q)) ∧ (x2 = 0 → Wq 1 0 0 mS_renew 0 [iR 76, iI x2, iI 0, none] [] M (fun M' v => Wq 3 0 0 mD_sheet 87 [iR 0, iI 2, iI x2, iI x3] (v.toList ++ []) M' Q)))) ∧ (¬ x2 = 0 → ((x3 ≤ 24 → ((¬ x2 = 0 → Wq 1 0 0 mS_renew 0 [iR 76, iI x2, iI x3, none] [] M (fun M' v => Wq 3 0 0 mD_sheet 87 [iR 0, iI 2, iI x2, iI x3] (v.toList ++ []) M' Q)) ∧ (x2 = 0 → Wq 1 0 0 mS_renew 0 [iR 76, iI x2, iI 0, none] [] M (fun M' v => Wq 3 0 0 mD_sheet 87 [iR 0, iI 2, iI x2, iI x3] (v.toList ++ []) M' Q)))) ∧ (¬ x3 ≤ 24 → Q (sI M 69 1 (wr (gI M 69 1 + 1))) (some (vI (-1000001)))))))) ∧ (¬ x2 = 0 → ((0 ≤ x3 → ((x2 = 0 → ((¬ x2 = 0 → Wq 1 0 0 mS_renew 0 [iR 76, iI x2, iI x3, none] [] M (fun M' v => Wq 3 0 0 mD_sheet 87 [iR 0, iI 2, iI x2, iI x3] (v.toList ++ []) M' Q)) ∧ (x2 = 0 → Wq 1 0 0 mS_renew 0 [iR 76, iI x2, iI 0, none] [] M (fun M' v => Wq 3 0 0 mD_sheet 87 [iR 0, iI 2, iI x2, iI x3] (v.toList ++ []) M' Q)))) ∧ (¬ x2 = 0 → ((x3 ≤ 24 → ((¬ x2 = 0 → Wq 1 0 0 mS_renew 0 [iR 76, iI x2, iI x3, none] [] M (fun M' v => Wq 3 0 0 mD_sheet 87 [iR 0, iI 2, iI x2, iI x3] (v.toList ++ []) M' Q)) ∧ (x2 = 0 → Wq 1 0 0 mS_renew 0 [iR 76, iI x2, iI 0, none] [] M (fun M' v => Wq 3 0 0 mD_sheet 87 [iR 0, iI 2, iI x2, iI x3] (v.toList ++ []) M' Q)))) ∧ (¬ x3 ≤ 24 → Q (sI M 69 1 (wr (gI M 69 1 + 1))) (some (vI (-1000001)))))))) ∧ (¬ 0 ≤ x3 → Q (sI M 69 3 (wr (gI M 69 3 + 1))) (some (vI (-1000003)))))))) ∧ (¬ x2 = 16 → ((x2 = 32 → ((x2 = 0 → ((x2 = 0 → ((¬ x2 = 0 → Wq 1 0 0 mS_renew 0 [iR 76, iI x2, iI x3, none] [] M (fun M' v => Wq 3 0 0 mD_sheet 87 [iR 0, iI 2, iI x2, iI x3] (v.toList ++ []) M' Q)) ∧ (x2 = 0 → Wq 1 0 0 mS_renew 0 [iR 76, iI x2, iI 0, none] [] M (fun M' v => Wq 3 0 0 mD_sheet 87 [iR 0, iI 2, iI x2, iI x3] (v.toList ++ []) M' Q)))) ∧ (¬ x2 = 0 → ((x3 ≤ 24 → ((¬ x2 = 0 → Wq 1 0 0 mS_renew 0 [iR 76, iI x2, iI x3, none] [] M (fun M' v => Wq 3 0 0 mD_sheet 87 [iR 0, iI 2, iI x2, iI x3] (v.toList ++ []) M' Q)) ∧ (x2 = 0 → Wq 1 0 0 mS_renew 0 [iR 76, iI x2, iI 0, none] [] M (fun M' v => Wq 3 0 0 mD_sheet 87 [iR 0, iI 2, iI x2, iI x3] (v.toList ++ []) M' Q)))) ∧ (¬ x3 ≤ 24 → Q (sI M 69 1 (wr (gI M 69 1 + 1))) (some (vI (-1000001)))))))) ∧ (¬ x2 = 0 → ((0 ≤ x3 → ((x2 = 0 → ((¬ x2 = 0 → Wq 1 0 0 mS_renew 0 [iR 76, iI x2, iI x3, none] [] M (fun M' v => Wq 3 0 0 mD_sheet 87 [iR 0, iI 2, iI x2, iI x3] (v.toList ++ []) M' Q)) ∧ (x2 = 0 → Wq 1 0 0 mS_renew 0 [iR 76, iI x2, iI 0, none] [] M (fun M' v => Wq 3 0 0 mD_sheet 87 [iR 0, iI 2, iI x2, iI x3] (v.toList ++ []) M' Q)))) ∧ (¬ x2 = 0 → ((x3 ≤ 24 → ((¬ x2 = 0 → Wq 1 0 0 mS_renew 0 [iR 76, iI x2, iI x3, none] [] M (fun M' v => Wq 3 0 0 mD_sheet 87 [iR 0, iI 2, iI x2, iI x3] (v.toList ++ []) M' Q)) ∧ (x2 = 0 → Wq 1 0 0 mS_renew 0 [iR 76, iI x2, iI 0, none] [] M (fun M' v => Wq 3 0 0 mD_sheet 87 [iR 0, iI 2, iI x2, iI x3] (v.toList ++ []) M' Q)))) ∧ (¬ x3 ≤ 24 → Q (sI M 69 1 (wr (gI M 69 1 + 1))) (some (vI (-1000001)))))))) ∧ (¬ 0 ≤ x3 → Q (sI M 69 3 (wr (gI M 69 3 + 1))) (some (vI (-1000003)))))))) ∧ (¬ x2 = 32 → Q (sI M 69 1 (wr (gI M 69 1 + 1))) (some (vI (-1000001)))))))))))) ∧ (¬ (0 ≤ (2 : Int) ∧ (2 : Int) ≤ 3) → Q (sI M 69 1 (wr (gI M 69 1 + 1))) (some (vI (-1000001)))))) : Wq 3 0 0 mD_sheet 0 [iR 0, iI 2, iI x2, iI x3] [] M Q := by
  refine wq_iload_n (pc := 0) dD_sheet_0 rfl rfl ?_
  refine wq_callS (d' := 2) (pc := 1) (as := [vI 2]) (rest := []) (lo' := [iI 2]) dD_sheet_1 mO_D_isSheet lS_D_284 rfl rfl rfl rfl rfl rfl ?_
  refine sp_D_isSheet (fun c1 => ?_) (fun c1 => ?_)
  · have H := H.1 c1
    show Wq 3 0 0 mD_sheet 4 [iR 0, iI 2, iI x2, iI x3] [vI 1] M _
    refine wq_if_eq (pc := 4) (tgt := 29) dD_sheet_4 (by decide) (fun q => absurd q (by decide)) (fun _ => ?_)
    refine wq_iload_n (pc := 7) dD_sheet_7 rfl rfl ?_
    refine wq_if_eq (pc := 8) (tgt := 36) dD_sheet_8 (by decide) (fun c2 => ?_) (fun c2 => ?_)
    · have H := H.1 c2
      refine wq_iload_n (pc := 36) dD_sheet_36 rfl rfl ?_
      refine wq_if_eq (pc := 37) (tgt := 51) dD_sheet_37 (by decide) (fun c3 => ?_) (fun c3 => ?_)
      · have H := H.1 c3
        refine wq_iload_n (pc := 51) dD_sheet_51 rfl rfl ?_
        refine wq_if_eq (pc := 52) (tgt := 68) dD_sheet_52 (by decide) (fun c4 => ?_) (fun c4 => ?_)
        · have H := H.1 c4
          refine wq_aload_n (pc := 68) dD_sheet_68 rfl rfl ?_
          refine wq_getR (pc := 69) (z := 5) (b := 68) dD_sheet_69 fO_D_42 sh_0 rfl rfl (rf_0_5 hS) ?_
          refine wq_iload_n (pc := 72) dD_sheet_72 rfl rfl ?_
          refine wq_aald (pc := 73) (b := 76) dD_sheet_73 sh_68 (by decide) (by decide) (rf_68_2 hS) ?_
          refine wq_iload_n (pc := 74) dD_sheet_74 rfl rfl ?_
          refine wq_iload_n (pc := 75) dD_sheet_75 rfl rfl ?_
          refine wq_if_ne (pc := 76) (tgt := 83) dD_sheet_76 (by decide) (fun c5 => ?_) (fun c5 => ?_)
          · have H := H.1 c5
            refine wq_iload_n (pc := 83) dD_sheet_83 rfl rfl ?_
            refine wq_callV (d' := 1) (pc := 84) (as := [vI x2, vI x3]) (rest := []) (lo' := [iR 76, iI x2, iI x3, none]) dD_sheet_84 mO_S_renew lV_D_316 sh_76 (by decide) cl_6 rfl rfl rfl rfl rfl rfl ?_
            exact H
          · have H := H.2 c5
            refine wq_iconst (pc := 79) dD_sheet_79 rfl ?_
            refine wq_goto (pc := 80) (tgt := 84) dD_sheet_80 (by decide) ?_
            refine wq_callV (d' := 1) (pc := 84) (as := [vI x2, vI 0]) (rest := []) (lo' := [iR 76, iI x2, iI 0, none]) dD_sheet_84 mO_S_renew lV_D_316 sh_76 (by decide) cl_6 rfl rfl rfl rfl rfl rfl ?_
            exact H
        · have H := H.2 c4
          refine wq_iload_n (pc := 55) dD_sheet_55 rfl rfl ?_
          refine wq_bipush (pc := 56) dD_sheet_56 rfl ?_
          refine wq_icmp_le (pc := 58) (tgt := 68) dD_sheet_58 (by decide) (fun c6 => ?_) (fun c6 => ?_)
          · have H := H.1 c6
            refine wq_aload_n (pc := 68) dD_sheet_68 rfl rfl ?_
            refine wq_getR (pc := 69) (z := 5) (b := 68) dD_sheet_69 fO_D_42 sh_0 rfl rfl (rf_0_5 hS) ?_
            refine wq_iload_n (pc := 72) dD_sheet_72 rfl rfl ?_
            refine wq_aald (pc := 73) (b := 76) dD_sheet_73 sh_68 (by decide) (by decide) (rf_68_2 hS) ?_
            refine wq_iload_n (pc := 74) dD_sheet_74 rfl rfl ?_
            refine wq_iload_n (pc := 75) dD_sheet_75 rfl rfl ?_
            refine wq_if_ne (pc := 76) (tgt := 83) dD_sheet_76 (by decide) (fun c7 => ?_) (fun c7 => ?_)
            · have H := H.1 c7
              refine wq_iload_n (pc := 83) dD_sheet_83 rfl rfl ?_
              refine wq_callV (d' := 1) (pc := 84) (as := [vI x2, vI x3]) (rest := []) (lo' := [iR 76, iI x2, iI x3, none]) dD_sheet_84 mO_S_renew lV_D_316 sh_76 (by decide) cl_6 rfl rfl rfl rfl rfl rfl ?_
              exact H
            · have H := H.2 c7
              refine wq_iconst (pc := 79) dD_sheet_79 rfl ?_
              refine wq_goto (pc := 80) (tgt := 84) dD_sheet_80 (by decide) ?_
              refine wq_callV (d' := 1) (pc := 84) (as := [vI x2, vI 0]) (rest := []) (lo' := [iR 76, iI x2, iI 0, none]) dD_sheet_84 mO_S_renew lV_D_316 sh_76 (by decide) cl_6 rfl rfl rfl rfl rfl rfl ?_
              exact H
          · have H := H.2 c6
            refine wq_aload_n (pc := 61) dD_sheet_61 rfl rfl ?_
            refine wq_ldc (pc := 62) (z := (-1000001)) dD_sheet_62 kO_D_69 (by decide) ?_
            refine wq_callV (d' := 2) (pc := 64) (as := [vI (-1000001)]) (rest := []) (lo' := [iR 0, iI ((-1000001)), none]) dD_sheet_64 mO_D_finding lV_D_70 sh_0 (by decide) cl_10 rfl rfl rfl rfl rfl rfl ?_
            refine sp_D_finding (k := 1) (by decide) (by decide) (by decide) hS ?_
            show Wq 3 0 0 mD_sheet 67 [iR 0, iI 2, iI x2, iI x3] [vI (-1000001)] (sI M 69 1 (wr (gI M 69 1 + 1))) _
            refine wq_ireturn (pc := 67) dD_sheet_67 trivial ?_
            exact H
      · have H := H.2 c3
        refine wq_iload_n (pc := 40) dD_sheet_40 rfl rfl ?_
        refine wq_if_ge (pc := 41) (tgt := 51) dD_sheet_41 (by decide) (fun c8 => ?_) (fun c8 => ?_)
        · have H := H.1 c8
          refine wq_iload_n (pc := 51) dD_sheet_51 rfl rfl ?_
          refine wq_if_eq (pc := 52) (tgt := 68) dD_sheet_52 (by decide) (fun c9 => ?_) (fun c9 => ?_)
          · have H := H.1 c9
            refine wq_aload_n (pc := 68) dD_sheet_68 rfl rfl ?_
            refine wq_getR (pc := 69) (z := 5) (b := 68) dD_sheet_69 fO_D_42 sh_0 rfl rfl (rf_0_5 hS) ?_
            refine wq_iload_n (pc := 72) dD_sheet_72 rfl rfl ?_
            refine wq_aald (pc := 73) (b := 76) dD_sheet_73 sh_68 (by decide) (by decide) (rf_68_2 hS) ?_
            refine wq_iload_n (pc := 74) dD_sheet_74 rfl rfl ?_
            refine wq_iload_n (pc := 75) dD_sheet_75 rfl rfl ?_
            refine wq_if_ne (pc := 76) (tgt := 83) dD_sheet_76 (by decide) (fun c10 => ?_) (fun c10 => ?_)
            · have H := H.1 c10
              refine wq_iload_n (pc := 83) dD_sheet_83 rfl rfl ?_
              refine wq_callV (d' := 1) (pc := 84) (as := [vI x2, vI x3]) (rest := []) (lo' := [iR 76, iI x2, iI x3, none]) dD_sheet_84 mO_S_renew lV_D_316 sh_76 (by decide) cl_6 rfl rfl rfl rfl rfl rfl ?_
              exact H
            · have H := H.2 c10
              refine wq_iconst (pc := 79) dD_sheet_79 rfl ?_
              refine wq_goto (pc := 80) (tgt := 84) dD_sheet_80 (by decide) ?_
              refine wq_callV (d' := 1) (pc := 84) (as := [vI x2, vI 0]) (rest := []) (lo' := [iR 76, iI x2, iI 0, none]) dD_sheet_84 mO_S_renew lV_D_316 sh_76 (by decide) cl_6 rfl rfl rfl rfl rfl rfl ?_
              exact H
          · have H := H.2 c9
            refine wq_iload_n (pc := 55) dD_sheet_55 rfl rfl ?_
            refine wq_bipush (pc := 56) dD_sheet_56 rfl ?_
            refine wq_icmp_le (pc := 58) (tgt := 68) dD_sheet_58 (by decide) (fun c11 => ?_) (fun c11 => ?_)
            · have H := H.1 c11
              refine wq_aload_n (pc := 68) dD_sheet_68 rfl rfl ?_
              refine wq_getR (pc := 69) (z := 5) (b := 68) dD_sheet_69 fO_D_42 sh_0 rfl rfl (rf_0_5 hS) ?_
              refine wq_iload_n (pc := 72) dD_sheet_72 rfl rfl ?_
              refine wq_aald (pc := 73) (b := 76) dD_sheet_73 sh_68 (by decide) (by decide) (rf_68_2 hS) ?_
              refine wq_iload_n (pc := 74) dD_sheet_74 rfl rfl ?_
              refine wq_iload_n (pc := 75) dD_sheet_75 rfl rfl ?_
              refine wq_if_ne (pc := 76) (tgt := 83) dD_sheet_76 (by decide) (fun c12 => ?_) (fun c12 => ?_)
              · have H := H.1 c12
                refine wq_iload_n (pc := 83) dD_sheet_83 rfl rfl ?_
                refine wq_callV (d' := 1) (pc := 84) (as := [vI x2, vI x3]) (rest := []) (lo' := [iR 76, iI x2, iI x3, none]) dD_sheet_84 mO_S_renew lV_D_316 sh_76 (by decide) cl_6 rfl rfl rfl rfl rfl rfl ?_
                exact H
              · have H := H.2 c12
                refine wq_iconst (pc := 79) dD_sheet_79 rfl ?_
                refine wq_goto (pc := 80) (tgt := 84) dD_sheet_80 (by decide) ?_
                refine wq_callV (d' := 1) (pc := 84) (as := [vI x2, vI 0]) (rest := []) (lo' := [iR 76, iI x2, iI 0, none]) dD_sheet_84 mO_S_renew lV_D_316 sh_76 (by decide) cl_6 rfl rfl rfl rfl rfl rfl ?_
                exact H
            · have H := H.2 c11
              refine wq_aload_n (pc := 61) dD_sheet_61 rfl rfl ?_
              refine wq_ldc (pc := 62) (z := (-1000001)) dD_sheet_62 kO_D_69 (by decide) ?_
              refine wq_callV (d' := 2) (pc := 64) (as := [vI (-1000001)]) (rest := []) (lo' := [iR 0, iI ((-1000001)), none]) dD_sheet_64 mO_D_finding lV_D_70 sh_0 (by decide) cl_10 rfl rfl rfl rfl rfl rfl ?_
              refine sp_D_finding (k := 1) (by decide) (by decide) (by decide) hS ?_
              show Wq 3 0 0 mD_sheet 67 [iR 0, iI 2, iI x2, iI x3] [vI (-1000001)] (sI M 69 1 (wr (gI M 69 1 + 1))) _
              refine wq_ireturn (pc := 67) dD_sheet_67 trivial ?_
              exact H
        · have H := H.2 c8
          refine wq_aload_n (pc := 44) dD_sheet_44 rfl rfl ?_
          refine wq_ldc (pc := 45) (z := (-1000003)) dD_sheet_45 kO_D_111 (by decide) ?_
          refine wq_callV (d' := 2) (pc := 47) (as := [vI (-1000003)]) (rest := []) (lo' := [iR 0, iI ((-1000003)), none]) dD_sheet_47 mO_D_finding lV_D_70 sh_0 (by decide) cl_10 rfl rfl rfl rfl rfl rfl ?_
          refine sp_D_finding (k := 3) (by decide) (by decide) (by decide) hS ?_
          show Wq 3 0 0 mD_sheet 50 [iR 0, iI 2, iI x2, iI x3] [vI (-1000003)] (sI M 69 3 (wr (gI M 69 3 + 1))) _
          refine wq_ireturn (pc := 50) dD_sheet_50 trivial ?_
          exact H
    · have H := H.2 c2
      refine wq_iload_n (pc := 11) dD_sheet_11 rfl rfl ?_
      refine wq_bipush (pc := 12) dD_sheet_12 rfl ?_
      refine wq_icmp_eq (pc := 14) (tgt := 36) dD_sheet_14 (by decide) (fun c13 => ?_) (fun c13 => ?_)
      · have H := H.1 c13
        refine wq_iload_n (pc := 36) dD_sheet_36 rfl rfl ?_
        refine wq_if_eq (pc := 37) (tgt := 51) dD_sheet_37 (by decide) (fun c14 => ?_) (fun c14 => ?_)
        · have H := H.1 c14
          refine wq_iload_n (pc := 51) dD_sheet_51 rfl rfl ?_
          refine wq_if_eq (pc := 52) (tgt := 68) dD_sheet_52 (by decide) (fun c15 => ?_) (fun c15 => ?_)
          · have H := H.1 c15
            refine wq_aload_n (pc := 68) dD_sheet_68 rfl rfl ?_
            refine wq_getR (pc := 69) (z := 5) (b := 68) dD_sheet_69 fO_D_42 sh_0 rfl rfl (rf_0_5 hS) ?_
            refine wq_iload_n (pc := 72) dD_sheet_72 rfl rfl ?_
            refine wq_aald (pc := 73) (b := 76) dD_sheet_73 sh_68 (by decide) (by decide) (rf_68_2 hS) ?_
            refine wq_iload_n (pc := 74) dD_sheet_74 rfl rfl ?_
            refine wq_iload_n (pc := 75) dD_sheet_75 rfl rfl ?_
            refine wq_if_ne (pc := 76) (tgt := 83) dD_sheet_76 (by decide) (fun c16 => ?_) (fun c16 => ?_)
            · have H := H.1 c16
              refine wq_iload_n (pc := 83) dD_sheet_83 rfl rfl ?_
              refine wq_callV (d' := 1) (pc := 84) (as := [vI x2, vI x3]) (rest := []) (lo' := [iR 76, iI x2, iI x3, none]) dD_sheet_84 mO_S_renew lV_D_316 sh_76 (by decide) cl_6 rfl rfl rfl rfl rfl rfl ?_
              exact H
            · have H := H.2 c16
              refine wq_iconst (pc := 79) dD_sheet_79 rfl ?_
              refine wq_goto (pc := 80) (tgt := 84) dD_sheet_80 (by decide) ?_
              refine wq_callV (d' := 1) (pc := 84) (as := [vI x2, vI 0]) (rest := []) (lo' := [iR 76, iI x2, iI 0, none]) dD_sheet_84 mO_S_renew lV_D_316 sh_76 (by decide) cl_6 rfl rfl rfl rfl rfl rfl ?_
              exact H
          · have H := H.2 c15
            refine wq_iload_n (pc := 55) dD_sheet_55 rfl rfl ?_
            refine wq_bipush (pc := 56) dD_sheet_56 rfl ?_
            refine wq_icmp_le (pc := 58) (tgt := 68) dD_sheet_58 (by decide) (fun c17 => ?_) (fun c17 => ?_)
            · have H := H.1 c17
              refine wq_aload_n (pc := 68) dD_sheet_68 rfl rfl ?_
              refine wq_getR (pc := 69) (z := 5) (b := 68) dD_sheet_69 fO_D_42 sh_0 rfl rfl (rf_0_5 hS) ?_
              refine wq_iload_n (pc := 72) dD_sheet_72 rfl rfl ?_
              refine wq_aald (pc := 73) (b := 76) dD_sheet_73 sh_68 (by decide) (by decide) (rf_68_2 hS) ?_
              refine wq_iload_n (pc := 74) dD_sheet_74 rfl rfl ?_
              refine wq_iload_n (pc := 75) dD_sheet_75 rfl rfl ?_
              refine wq_if_ne (pc := 76) (tgt := 83) dD_sheet_76 (by decide) (fun c18 => ?_) (fun c18 => ?_)
              · have H := H.1 c18
                refine wq_iload_n (pc := 83) dD_sheet_83 rfl rfl ?_
                refine wq_callV (d' := 1) (pc := 84) (as := [vI x2, vI x3]) (rest := []) (lo' := [iR 76, iI x2, iI x3, none]) dD_sheet_84 mO_S_renew lV_D_316 sh_76 (by decide) cl_6 rfl rfl rfl rfl rfl rfl ?_
                exact H
              · have H := H.2 c18
                refine wq_iconst (pc := 79) dD_sheet_79 rfl ?_
                refine wq_goto (pc := 80) (tgt := 84) dD_sheet_80 (by decide) ?_
                refine wq_callV (d' := 1) (pc := 84) (as := [vI x2, vI 0]) (rest := []) (lo' := [iR 76, iI x2, iI 0, none]) dD_sheet_84 mO_S_renew lV_D_316 sh_76 (by decide) cl_6 rfl rfl rfl rfl rfl rfl ?_
                exact H
            · have H := H.2 c17
              refine wq_aload_n (pc := 61) dD_sheet_61 rfl rfl ?_
              refine wq_ldc (pc := 62) (z := (-1000001)) dD_sheet_62 kO_D_69 (by decide) ?_
              refine wq_callV (d' := 2) (pc := 64) (as := [vI (-1000001)]) (rest := []) (lo' := [iR 0, iI ((-1000001)), none]) dD_sheet_64 mO_D_finding lV_D_70 sh_0 (by decide) cl_10 rfl rfl rfl rfl rfl rfl ?_
              refine sp_D_finding (k := 1) (by decide) (by decide) (by decide) hS ?_
              show Wq 3 0 0 mD_sheet 67 [iR 0, iI 2, iI x2, iI x3] [vI (-1000001)] (sI M 69 1 (wr (gI M 69 1 + 1))) _
              refine wq_ireturn (pc := 67) dD_sheet_67 trivial ?_
              exact H
        · have H := H.2 c14
          refine wq_iload_n (pc := 40) dD_sheet_40 rfl rfl ?_
          refine wq_if_ge (pc := 41) (tgt := 51) dD_sheet_41 (by decide) (fun c19 => ?_) (fun c19 => ?_)
          · have H := H.1 c19
            refine wq_iload_n (pc := 51) dD_sheet_51 rfl rfl ?_
            refine wq_if_eq (pc := 52) (tgt := 68) dD_sheet_52 (by decide) (fun c20 => ?_) (fun c20 => ?_)
            · have H := H.1 c20
              refine wq_aload_n (pc := 68) dD_sheet_68 rfl rfl ?_
              refine wq_getR (pc := 69) (z := 5) (b := 68) dD_sheet_69 fO_D_42 sh_0 rfl rfl (rf_0_5 hS) ?_
              refine wq_iload_n (pc := 72) dD_sheet_72 rfl rfl ?_
              refine wq_aald (pc := 73) (b := 76) dD_sheet_73 sh_68 (by decide) (by decide) (rf_68_2 hS) ?_
              refine wq_iload_n (pc := 74) dD_sheet_74 rfl rfl ?_
              refine wq_iload_n (pc := 75) dD_sheet_75 rfl rfl ?_
              refine wq_if_ne (pc := 76) (tgt := 83) dD_sheet_76 (by decide) (fun c21 => ?_) (fun c21 => ?_)
              · have H := H.1 c21
                refine wq_iload_n (pc := 83) dD_sheet_83 rfl rfl ?_
                refine wq_callV (d' := 1) (pc := 84) (as := [vI x2, vI x3]) (rest := []) (lo' := [iR 76, iI x2, iI x3, none]) dD_sheet_84 mO_S_renew lV_D_316 sh_76 (by decide) cl_6 rfl rfl rfl rfl rfl rfl ?_
                exact H
              · have H := H.2 c21
                refine wq_iconst (pc := 79) dD_sheet_79 rfl ?_
                refine wq_goto (pc := 80) (tgt := 84) dD_sheet_80 (by decide) ?_
                refine wq_callV (d' := 1) (pc := 84) (as := [vI x2, vI 0]) (rest := []) (lo' := [iR 76, iI x2, iI 0, none]) dD_sheet_84 mO_S_renew lV_D_316 sh_76 (by decide) cl_6 rfl rfl rfl rfl rfl rfl ?_
                exact H
            · have H := H.2 c20
              refine wq_iload_n (pc := 55) dD_sheet_55 rfl rfl ?_
              refine wq_bipush (pc := 56) dD_sheet_56 rfl ?_
              refine wq_icmp_le (pc := 58) (tgt := 68) dD_sheet_58 (by decide) (fun c22 => ?_) (fun c22 => ?_)
              · have H := H.1 c22
                refine wq_aload_n (pc := 68) dD_sheet_68 rfl rfl ?_
                refine wq_getR (pc := 69) (z := 5) (b := 68) dD_sheet_69 fO_D_42 sh_0 rfl rfl (rf_0_5 hS) ?_
                refine wq_iload_n (pc := 72) dD_sheet_72 rfl rfl ?_
                refine wq_aald (pc := 73) (b := 76) dD_sheet_73 sh_68 (by decide) (by decide) (rf_68_2 hS) ?_
                refine wq_iload_n (pc := 74) dD_sheet_74 rfl rfl ?_
                refine wq_iload_n (pc := 75) dD_sheet_75 rfl rfl ?_
                refine wq_if_ne (pc := 76) (tgt := 83) dD_sheet_76 (by decide) (fun c23 => ?_) (fun c23 => ?_)
                · have H := H.1 c23
                  refine wq_iload_n (pc := 83) dD_sheet_83 rfl rfl ?_
                  refine wq_callV (d' := 1) (pc := 84) (as := [vI x2, vI x3]) (rest := []) (lo' := [iR 76, iI x2, iI x3, none]) dD_sheet_84 mO_S_renew lV_D_316 sh_76 (by decide) cl_6 rfl rfl rfl rfl rfl rfl ?_
                  exact H
                · have H := H.2 c23
                  refine wq_iconst (pc := 79) dD_sheet_79 rfl ?_
                  refine wq_goto (pc := 80) (tgt := 84) dD_sheet_80 (by decide) ?_
                  refine wq_callV (d' := 1) (pc := 84) (as := [vI x2, vI 0]) (rest := []) (lo' := [iR 76, iI x2, iI 0, none]) dD_sheet_84 mO_S_renew lV_D_316 sh_76 (by decide) cl_6 rfl rfl rfl rfl rfl rfl ?_
                  exact H
              · have H := H.2 c22
                refine wq_aload_n (pc := 61) dD_sheet_61 rfl rfl ?_
                refine wq_ldc (pc := 62) (z := (-1000001)) dD_sheet_62 kO_D_69 (by decide) ?_
                refine wq_callV (d' := 2) (pc := 64) (as := [vI (-1000001)]) (rest := []) (lo' := [iR 0, iI ((-1000001)), none]) dD_sheet_64 mO_D_finding lV_D_70 sh_0 (by decide) cl_10 rfl rfl rfl rfl rfl rfl ?_
                refine sp_D_finding (k := 1) (by decide) (by decide) (by decide) hS ?_
                show Wq 3 0 0 mD_sheet 67 [iR 0, iI 2, iI x2, iI x3] [vI (-1000001)] (sI M 69 1 (wr (gI M 69 1 + 1))) _
                refine wq_ireturn (pc := 67) dD_sheet_67 trivial ?_
                exact H
          · have H := H.2 c19
            refine wq_aload_n (pc := 44) dD_sheet_44 rfl rfl ?_
            refine wq_ldc (pc := 45) (z := (-1000003)) dD_sheet_45 kO_D_111 (by decide) ?_
            refine wq_callV (d' := 2) (pc := 47) (as := [vI (-1000003)]) (rest := []) (lo' := [iR 0, iI ((-1000003)), none]) dD_sheet_47 mO_D_finding lV_D_70 sh_0 (by decide) cl_10 rfl rfl rfl rfl rfl rfl ?_
            refine sp_D_finding (k := 3) (by decide) (by decide) (by decide) hS ?_
            show Wq 3 0 0 mD_sheet 50 [iR 0, iI 2, iI x2, iI x3] [vI (-1000003)] (sI M 69 3 (wr (gI M 69 3 + 1))) _
            refine wq_ireturn (pc := 50) dD_sheet_50 trivial ?_
            exact H
      · have H := H.2 c13
        refine wq_iload_n (pc := 17) dD_sheet_17 rfl rfl ?_
        refine wq_bipush (pc := 18) dD_sheet_18 rfl ?_
        refine wq_icmp_eq (pc := 20) (tgt := 36) dD_sheet_20 (by decide) (fun c24 => ?_) (fun c24 => ?_)
        · have H := H.1 c24
          refine wq_iload_n (pc := 36) dD_sheet_36 rfl rfl ?_
          refine wq_if_eq (pc := 37) (tgt := 51) dD_sheet_37 (by decide) (fun c25 => ?_) (fun c25 => ?_)
          · have H := H.1 c25
            refine wq_iload_n (pc := 51) dD_sheet_51 rfl rfl ?_
            refine wq_if_eq (pc := 52) (tgt := 68) dD_sheet_52 (by decide) (fun c26 => ?_) (fun c26 => ?_)
            · have H := H.1 c26
              refine wq_aload_n (pc := 68) dD_sheet_68 rfl rfl ?_
              refine wq_getR (pc := 69) (z := 5) (b := 68) dD_sheet_69 fO_D_42 sh_0 rfl rfl (rf_0_5 hS) ?_
              refine wq_iload_n (pc := 72) dD_sheet_72 rfl rfl ?_
              refine wq_aald (pc := 73) (b := 76) dD_sheet_73 sh_68 (by decide) (by decide) (rf_68_2 hS) ?_
              refine wq_iload_n (pc := 74) dD_sheet_74 rfl rfl ?_
              refine wq_iload_n (pc := 75) dD_sheet_75 rfl rfl ?_
              refine wq_if_ne (pc := 76) (tgt := 83) dD_sheet_76 (by decide) (fun c27 => ?_) (fun c27 => ?_)
              · have H := H.1 c27
                refine wq_iload_n (pc := 83) dD_sheet_83 rfl rfl ?_
                refine wq_callV (d' := 1) (pc := 84) (as := [vI x2, vI x3]) (rest := []) (lo' := [iR 76, iI x2, iI x3, none]) dD_sheet_84 mO_S_renew lV_D_316 sh_76 (by decide) cl_6 rfl rfl rfl rfl rfl rfl ?_
                exact H
              · have H := H.2 c27
                refine wq_iconst (pc := 79) dD_sheet_79 rfl ?_
                refine wq_goto (pc := 80) (tgt := 84) dD_sheet_80 (by decide) ?_
                refine wq_callV (d' := 1) (pc := 84) (as := [vI x2, vI 0]) (rest := []) (lo' := [iR 76, iI x2, iI 0, none]) dD_sheet_84 mO_S_renew lV_D_316 sh_76 (by decide) cl_6 rfl rfl rfl rfl rfl rfl ?_
                exact H
            · have H := H.2 c26
              refine wq_iload_n (pc := 55) dD_sheet_55 rfl rfl ?_
              refine wq_bipush (pc := 56) dD_sheet_56 rfl ?_
              refine wq_icmp_le (pc := 58) (tgt := 68) dD_sheet_58 (by decide) (fun c28 => ?_) (fun c28 => ?_)
              · have H := H.1 c28
                refine wq_aload_n (pc := 68) dD_sheet_68 rfl rfl ?_
                refine wq_getR (pc := 69) (z := 5) (b := 68) dD_sheet_69 fO_D_42 sh_0 rfl rfl (rf_0_5 hS) ?_
                refine wq_iload_n (pc := 72) dD_sheet_72 rfl rfl ?_
                refine wq_aald (pc := 73) (b := 76) dD_sheet_73 sh_68 (by decide) (by decide) (rf_68_2 hS) ?_
                refine wq_iload_n (pc := 74) dD_sheet_74 rfl rfl ?_
                refine wq_iload_n (pc := 75) dD_sheet_75 rfl rfl ?_
                refine wq_if_ne (pc := 76) (tgt := 83) dD_sheet_76 (by decide) (fun c29 => ?_) (fun c29 => ?_)
                · have H := H.1 c29
                  refine wq_iload_n (pc := 83) dD_sheet_83 rfl rfl ?_
                  refine wq_callV (d' := 1) (pc := 84) (as := [vI x2, vI x3]) (rest := []) (lo' := [iR 76, iI x2, iI x3, none]) dD_sheet_84 mO_S_renew lV_D_316 sh_76 (by decide) cl_6 rfl rfl rfl rfl rfl rfl ?_
                  exact H
                · have H := H.2 c29
                  refine wq_iconst (pc := 79) dD_sheet_79 rfl ?_
                  refine wq_goto (pc := 80) (tgt := 84) dD_sheet_80 (by decide) ?_
                  refine wq_callV (d' := 1) (pc := 84) (as := [vI x2, vI 0]) (rest := []) (lo' := [iR 76, iI x2, iI 0, none]) dD_sheet_84 mO_S_renew lV_D_316 sh_76 (by decide) cl_6 rfl rfl rfl rfl rfl rfl ?_
                  exact H
              · have H := H.2 c28
                refine wq_aload_n (pc := 61) dD_sheet_61 rfl rfl ?_
                refine wq_ldc (pc := 62) (z := (-1000001)) dD_sheet_62 kO_D_69 (by decide) ?_
                refine wq_callV (d' := 2) (pc := 64) (as := [vI (-1000001)]) (rest := []) (lo' := [iR 0, iI ((-1000001)), none]) dD_sheet_64 mO_D_finding lV_D_70 sh_0 (by decide) cl_10 rfl rfl rfl rfl rfl rfl ?_
                refine sp_D_finding (k := 1) (by decide) (by decide) (by decide) hS ?_
                show Wq 3 0 0 mD_sheet 67 [iR 0, iI 2, iI x2, iI x3] [vI (-1000001)] (sI M 69 1 (wr (gI M 69 1 + 1))) _
                refine wq_ireturn (pc := 67) dD_sheet_67 trivial ?_
                exact H
          · have H := H.2 c25
            refine wq_iload_n (pc := 40) dD_sheet_40 rfl rfl ?_
            refine wq_if_ge (pc := 41) (tgt := 51) dD_sheet_41 (by decide) (fun c30 => ?_) (fun c30 => ?_)
            · have H := H.1 c30
              refine wq_iload_n (pc := 51) dD_sheet_51 rfl rfl ?_
              refine wq_if_eq (pc := 52) (tgt := 68) dD_sheet_52 (by decide) (fun c31 => ?_) (fun c31 => ?_)
              · have H := H.1 c31
                refine wq_aload_n (pc := 68) dD_sheet_68 rfl rfl ?_
                refine wq_getR (pc := 69) (z := 5) (b := 68) dD_sheet_69 fO_D_42 sh_0 rfl rfl (rf_0_5 hS) ?_
                refine wq_iload_n (pc := 72) dD_sheet_72 rfl rfl ?_
                refine wq_aald (pc := 73) (b := 76) dD_sheet_73 sh_68 (by decide) (by decide) (rf_68_2 hS) ?_
                refine wq_iload_n (pc := 74) dD_sheet_74 rfl rfl ?_
                refine wq_iload_n (pc := 75) dD_sheet_75 rfl rfl ?_
                refine wq_if_ne (pc := 76) (tgt := 83) dD_sheet_76 (by decide) (fun c32 => ?_) (fun c32 => ?_)
                · have H := H.1 c32
                  refine wq_iload_n (pc := 83) dD_sheet_83 rfl rfl ?_
                  refine wq_callV (d' := 1) (pc := 84) (as := [vI x2, vI x3]) (rest := []) (lo' := [iR 76, iI x2, iI x3, none]) dD_sheet_84 mO_S_renew lV_D_316 sh_76 (by decide) cl_6 rfl rfl rfl rfl rfl rfl ?_
                  exact H
                · have H := H.2 c32
                  refine wq_iconst (pc := 79) dD_sheet_79 rfl ?_
                  refine wq_goto (pc := 80) (tgt := 84) dD_sheet_80 (by decide) ?_
                  refine wq_callV (d' := 1) (pc := 84) (as := [vI x2, vI 0]) (rest := []) (lo' := [iR 76, iI x2, iI 0, none]) dD_sheet_84 mO_S_renew lV_D_316 sh_76 (by decide) cl_6 rfl rfl rfl rfl rfl rfl ?_
                  exact H
              · have H := H.2 c31
                refine wq_iload_n (pc := 55) dD_sheet_55 rfl rfl ?_
                refine wq_bipush (pc := 56) dD_sheet_56 rfl ?_
                refine wq_icmp_le (pc := 58) (tgt := 68) dD_sheet_58 (by decide) (fun c33 => ?_) (fun c33 => ?_)
                · have H := H.1 c33
                  refine wq_aload_n (pc := 68) dD_sheet_68 rfl rfl ?_
                  refine wq_getR (pc := 69) (z := 5) (b := 68) dD_sheet_69 fO_D_42 sh_0 rfl rfl (rf_0_5 hS) ?_
                  refine wq_iload_n (pc := 72) dD_sheet_72 rfl rfl ?_
                  refine wq_aald (pc := 73) (b := 76) dD_sheet_73 sh_68 (by decide) (by decide) (rf_68_2 hS) ?_
                  refine wq_iload_n (pc := 74) dD_sheet_74 rfl rfl ?_
                  refine wq_iload_n (pc := 75) dD_sheet_75 rfl rfl ?_
                  refine wq_if_ne (pc := 76) (tgt := 83) dD_sheet_76 (by decide) (fun c34 => ?_) (fun c34 => ?_)
                  · have H := H.1 c34
                    refine wq_iload_n (pc := 83) dD_sheet_83 rfl rfl ?_
                    refine wq_callV (d' := 1) (pc := 84) (as := [vI x2, vI x3]) (rest := []) (lo' := [iR 76, iI x2, iI x3, none]) dD_sheet_84 mO_S_renew lV_D_316 sh_76 (by decide) cl_6 rfl rfl rfl rfl rfl rfl ?_
                    exact H
                  · have H := H.2 c34
                    refine wq_iconst (pc := 79) dD_sheet_79 rfl ?_
                    refine wq_goto (pc := 80) (tgt := 84) dD_sheet_80 (by decide) ?_
                    refine wq_callV (d' := 1) (pc := 84) (as := [vI x2, vI 0]) (rest := []) (lo' := [iR 76, iI x2, iI 0, none]) dD_sheet_84 mO_S_renew lV_D_316 sh_76 (by decide) cl_6 rfl rfl rfl rfl rfl rfl ?_
                    exact H
                · have H := H.2 c33
                  refine wq_aload_n (pc := 61) dD_sheet_61 rfl rfl ?_
                  refine wq_ldc (pc := 62) (z := (-1000001)) dD_sheet_62 kO_D_69 (by decide) ?_
                  refine wq_callV (d' := 2) (pc := 64) (as := [vI (-1000001)]) (rest := []) (lo' := [iR 0, iI ((-1000001)), none]) dD_sheet_64 mO_D_finding lV_D_70 sh_0 (by decide) cl_10 rfl rfl rfl rfl rfl rfl ?_
                  refine sp_D_finding (k := 1) (by decide) (by decide) (by decide) hS ?_
                  show Wq 3 0 0 mD_sheet 67 [iR 0, iI 2, iI x2, iI x3] [vI (-1000001)] (sI M 69 1 (wr (gI M 69 1 + 1))) _
                  refine wq_ireturn (pc := 67) dD_sheet_67 trivial ?_
                  exact H
            · have H := H.2 c30
              refine wq_aload_n (pc := 44) dD_sheet_44 rfl rfl ?_
              refine wq_ldc (pc := 45) (z := (-1000003)) dD_sheet_45 kO_D_111 (by decide) ?_
              refine wq_callV (d' := 2) (pc := 47) (as := [vI (-1000003)]) (rest := []) (lo' := [iR 0, iI ((-1000003)), none]) dD_sheet_47 mO_D_finding lV_D_70 sh_0 (by decide) cl_10 rfl rfl rfl rfl rfl rfl ?_
              refine sp_D_finding (k := 3) (by decide) (by decide) (by decide) hS ?_
              show Wq 3 0 0 mD_sheet 50 [iR 0, iI 2, iI x2, iI x3] [vI (-1000003)] (sI M 69 3 (wr (gI M 69 3 + 1))) _
              refine wq_ireturn (pc := 50) dD_sheet_50 trivial ?_
              exact H
        · have H := H.2 c24
          refine wq_iload_n (pc := 23) dD_sheet_23 rfl rfl ?_
          refine wq_bipush (pc := 24) dD_sheet_24 rfl ?_
          refine wq_icmp_eq (pc := 26) (tgt := 36) dD_sheet_26 (by decide) (fun c35 => ?_) (fun c35 => ?_)
          · have H := H.1 c35
            refine wq_iload_n (pc := 36) dD_sheet_36 rfl rfl ?_
            refine wq_if_eq (pc := 37) (tgt := 51) dD_sheet_37 (by decide) (fun c36 => ?_) (fun c36 => ?_)
            · have H := H.1 c36
              refine wq_iload_n (pc := 51) dD_sheet_51 rfl rfl ?_
              refine wq_if_eq (pc := 52) (tgt := 68) dD_sheet_52 (by decide) (fun c37 => ?_) (fun c37 => ?_)
              · have H := H.1 c37
                refine wq_aload_n (pc := 68) dD_sheet_68 rfl rfl ?_
                refine wq_getR (pc := 69) (z := 5) (b := 68) dD_sheet_69 fO_D_42 sh_0 rfl rfl (rf_0_5 hS) ?_
                refine wq_iload_n (pc := 72) dD_sheet_72 rfl rfl ?_
                refine wq_aald (pc := 73) (b := 76) dD_sheet_73 sh_68 (by decide) (by decide) (rf_68_2 hS) ?_
                refine wq_iload_n (pc := 74) dD_sheet_74 rfl rfl ?_
                refine wq_iload_n (pc := 75) dD_sheet_75 rfl rfl ?_
                refine wq_if_ne (pc := 76) (tgt := 83) dD_sheet_76 (by decide) (fun c38 => ?_) (fun c38 => ?_)
                · have H := H.1 c38
                  refine wq_iload_n (pc := 83) dD_sheet_83 rfl rfl ?_
                  refine wq_callV (d' := 1) (pc := 84) (as := [vI x2, vI x3]) (rest := []) (lo' := [iR 76, iI x2, iI x3, none]) dD_sheet_84 mO_S_renew lV_D_316 sh_76 (by decide) cl_6 rfl rfl rfl rfl rfl rfl ?_
                  exact H
                · have H := H.2 c38
                  refine wq_iconst (pc := 79) dD_sheet_79 rfl ?_
                  refine wq_goto (pc := 80) (tgt := 84) dD_sheet_80 (by decide) ?_
                  refine wq_callV (d' := 1) (pc := 84) (as := [vI x2, vI 0]) (rest := []) (lo' := [iR 76, iI x2, iI 0, none]) dD_sheet_84 mO_S_renew lV_D_316 sh_76 (by decide) cl_6 rfl rfl rfl rfl rfl rfl ?_
                  exact H
              · have H := H.2 c37
                refine wq_iload_n (pc := 55) dD_sheet_55 rfl rfl ?_
                refine wq_bipush (pc := 56) dD_sheet_56 rfl ?_
                refine wq_icmp_le (pc := 58) (tgt := 68) dD_sheet_58 (by decide) (fun c39 => ?_) (fun c39 => ?_)
                · have H := H.1 c39
                  refine wq_aload_n (pc := 68) dD_sheet_68 rfl rfl ?_
                  refine wq_getR (pc := 69) (z := 5) (b := 68) dD_sheet_69 fO_D_42 sh_0 rfl rfl (rf_0_5 hS) ?_
                  refine wq_iload_n (pc := 72) dD_sheet_72 rfl rfl ?_
                  refine wq_aald (pc := 73) (b := 76) dD_sheet_73 sh_68 (by decide) (by decide) (rf_68_2 hS) ?_
                  refine wq_iload_n (pc := 74) dD_sheet_74 rfl rfl ?_
                  refine wq_iload_n (pc := 75) dD_sheet_75 rfl rfl ?_
                  refine wq_if_ne (pc := 76) (tgt := 83) dD_sheet_76 (by decide) (fun c40 => ?_) (fun c40 => ?_)
                  · have H := H.1 c40
                    refine wq_iload_n (pc := 83) dD_sheet_83 rfl rfl ?_
                    refine wq_callV (d' := 1) (pc := 84) (as := [vI x2, vI x3]) (rest := []) (lo' := [iR 76, iI x2, iI x3, none]) dD_sheet_84 mO_S_renew lV_D_316 sh_76 (by decide) cl_6 rfl rfl rfl rfl rfl rfl ?_
                    exact H
                  · have H := H.2 c40
                    refine wq_iconst (pc := 79) dD_sheet_79 rfl ?_
                    refine wq_goto (pc := 80) (tgt := 84) dD_sheet_80 (by decide) ?_
                    refine wq_callV (d' := 1) (pc := 84) (as := [vI x2, vI 0]) (rest := []) (lo' := [iR 76, iI x2, iI 0, none]) dD_sheet_84 mO_S_renew lV_D_316 sh_76 (by decide) cl_6 rfl rfl rfl rfl rfl rfl ?_
                    exact H
                · have H := H.2 c39
                  refine wq_aload_n (pc := 61) dD_sheet_61 rfl rfl ?_
                  refine wq_ldc (pc := 62) (z := (-1000001)) dD_sheet_62 kO_D_69 (by decide) ?_
                  refine wq_callV (d' := 2) (pc := 64) (as := [vI (-1000001)]) (rest := []) (lo' := [iR 0, iI ((-1000001)), none]) dD_sheet_64 mO_D_finding lV_D_70 sh_0 (by decide) cl_10 rfl rfl rfl rfl rfl rfl ?_
                  refine sp_D_finding (k := 1) (by decide) (by decide) (by decide) hS ?_
                  show Wq 3 0 0 mD_sheet 67 [iR 0, iI 2, iI x2, iI x3] [vI (-1000001)] (sI M 69 1 (wr (gI M 69 1 + 1))) _
                  refine wq_ireturn (pc := 67) dD_sheet_67 trivial ?_
                  exact H
            · have H := H.2 c36
              refine wq_iload_n (pc := 40) dD_sheet_40 rfl rfl ?_
              refine wq_if_ge (pc := 41) (tgt := 51) dD_sheet_41 (by decide) (fun c41 => ?_) (fun c41 => ?_)
              · have H := H.1 c41
                refine wq_iload_n (pc := 51) dD_sheet_51 rfl rfl ?_
                refine wq_if_eq (pc := 52) (tgt := 68) dD_sheet_52 (by decide) (fun c42 => ?_) (fun c42 => ?_)
                · have H := H.1 c42
                  refine wq_aload_n (pc := 68) dD_sheet_68 rfl rfl ?_
                  refine wq_getR (pc := 69) (z := 5) (b := 68) dD_sheet_69 fO_D_42 sh_0 rfl rfl (rf_0_5 hS) ?_
                  refine wq_iload_n (pc := 72) dD_sheet_72 rfl rfl ?_
                  refine wq_aald (pc := 73) (b := 76) dD_sheet_73 sh_68 (by decide) (by decide) (rf_68_2 hS) ?_
                  refine wq_iload_n (pc := 74) dD_sheet_74 rfl rfl ?_
                  refine wq_iload_n (pc := 75) dD_sheet_75 rfl rfl ?_
                  refine wq_if_ne (pc := 76) (tgt := 83) dD_sheet_76 (by decide) (fun c43 => ?_) (fun c43 => ?_)
                  · have H := H.1 c43
                    refine wq_iload_n (pc := 83) dD_sheet_83 rfl rfl ?_
                    refine wq_callV (d' := 1) (pc := 84) (as := [vI x2, vI x3]) (rest := []) (lo' := [iR 76, iI x2, iI x3, none]) dD_sheet_84 mO_S_renew lV_D_316 sh_76 (by decide) cl_6 rfl rfl rfl rfl rfl rfl ?_
                    exact H
                  · have H := H.2 c43
                    refine wq_iconst (pc := 79) dD_sheet_79 rfl ?_
                    refine wq_goto (pc := 80) (tgt := 84) dD_sheet_80 (by decide) ?_
                    refine wq_callV (d' := 1) (pc := 84) (as := [vI x2, vI 0]) (rest := []) (lo' := [iR 76, iI x2, iI 0, none]) dD_sheet_84 mO_S_renew lV_D_316 sh_76 (by decide) cl_6 rfl rfl rfl rfl rfl rfl ?_
                    exact H
                · have H := H.2 c42
                  refine wq_iload_n (pc := 55) dD_sheet_55 rfl rfl ?_
                  refine wq_bipush (pc := 56) dD_sheet_56 rfl ?_
                  refine wq_icmp_le (pc := 58) (tgt := 68) dD_sheet_58 (by decide) (fun c44 => ?_) (fun c44 => ?_)
                  · have H := H.1 c44
                    refine wq_aload_n (pc := 68) dD_sheet_68 rfl rfl ?_
                    refine wq_getR (pc := 69) (z := 5) (b := 68) dD_sheet_69 fO_D_42 sh_0 rfl rfl (rf_0_5 hS) ?_
                    refine wq_iload_n (pc := 72) dD_sheet_72 rfl rfl ?_
                    refine wq_aald (pc := 73) (b := 76) dD_sheet_73 sh_68 (by decide) (by decide) (rf_68_2 hS) ?_
                    refine wq_iload_n (pc := 74) dD_sheet_74 rfl rfl ?_
                    refine wq_iload_n (pc := 75) dD_sheet_75 rfl rfl ?_
                    refine wq_if_ne (pc := 76) (tgt := 83) dD_sheet_76 (by decide) (fun c45 => ?_) (fun c45 => ?_)
                    · have H := H.1 c45
                      refine wq_iload_n (pc := 83) dD_sheet_83 rfl rfl ?_
                      refine wq_callV (d' := 1) (pc := 84) (as := [vI x2, vI x3]) (rest := []) (lo' := [iR 76, iI x2, iI x3, none]) dD_sheet_84 mO_S_renew lV_D_316 sh_76 (by decide) cl_6 rfl rfl rfl rfl rfl rfl ?_
                      exact H
                    · have H := H.2 c45
                      refine wq_iconst (pc := 79) dD_sheet_79 rfl ?_
                      refine wq_goto (pc := 80) (tgt := 84) dD_sheet_80 (by decide) ?_
                      refine wq_callV (d' := 1) (pc := 84) (as := [vI x2, vI 0]) (rest := []) (lo' := [iR 76, iI x2, iI 0, none]) dD_sheet_84 mO_S_renew lV_D_316 sh_76 (by decide) cl_6 rfl rfl rfl rfl rfl rfl ?_
                      exact H
                  · have H := H.2 c44
                    refine wq_aload_n (pc := 61) dD_sheet_61 rfl rfl ?_
                    refine wq_ldc (pc := 62) (z := (-1000001)) dD_sheet_62 kO_D_69 (by decide) ?_
                    refine wq_callV (d' := 2) (pc := 64) (as := [vI (-1000001)]) (rest := []) (lo' := [iR 0, iI ((-1000001)), none]) dD_sheet_64 mO_D_finding lV_D_70 sh_0 (by decide) cl_10 rfl rfl rfl rfl rfl rfl ?_
                    refine sp_D_finding (k := 1) (by decide) (by decide) (by decide) hS ?_
                    show Wq 3 0 0 mD_sheet 67 [iR 0, iI 2, iI x2, iI x3] [vI (-1000001)] (sI M 69 1 (wr (gI M 69 1 + 1))) _
                    refine wq_ireturn (pc := 67) dD_sheet_67 trivial ?_
                    exact H
              · have H := H.2 c41
                refine wq_aload_n (pc := 44) dD_sheet_44 rfl rfl ?_
                refine wq_ldc (pc := 45) (z := (-1000003)) dD_sheet_45 kO_D_111 (by decide) ?_
                refine wq_callV (d' := 2) (pc := 47) (as := [vI (-1000003)]) (rest := []) (lo' := [iR 0, iI ((-1000003)), none]) dD_sheet_47 mO_D_finding lV_D_70 sh_0 (by decide) cl_10 rfl rfl rfl rfl rfl rfl ?_
                refine sp_D_finding (k := 3) (by decide) (by decide) (by decide) hS ?_
                show Wq 3 0 0 mD_sheet 50 [iR 0, iI 2, iI x2, iI x3] [vI (-1000003)] (sI M 69 3 (wr (gI M 69 3 + 1))) _
                refine wq_ireturn (pc := 50) dD_sheet_50 trivial ?_
                exact H
          · have H := H.2 c35
            refine wq_aload_n (pc := 29) dD_sheet_29 rfl rfl ?_
            refine wq_ldc (pc := 30) (z := (-1000001)) dD_sheet_30 kO_D_69 (by decide) ?_
            refine wq_callV (d' := 2) (pc := 32) (as := [vI (-1000001)]) (rest := []) (lo' := [iR 0, iI ((-1000001)), none]) dD_sheet_32 mO_D_finding lV_D_70 sh_0 (by decide) cl_10 rfl rfl rfl rfl rfl rfl ?_
            refine sp_D_finding (k := 1) (by decide) (by decide) (by decide) hS ?_
            show Wq 3 0 0 mD_sheet 35 [iR 0, iI 2, iI x2, iI x3] [vI (-1000001)] (sI M 69 1 (wr (gI M 69 1 + 1))) _
            refine wq_ireturn (pc := 35) dD_sheet_35 trivial ?_
            exact H
  · have H := H.2 c1
    show Wq 3 0 0 mD_sheet 4 [iR 0, iI 2, iI x2, iI x3] [vI 0] M _
    refine wq_if_eq (pc := 4) (tgt := 29) dD_sheet_4 (by decide) (fun _ => ?_) (fun q => absurd (by decide) q)
    refine wq_aload_n (pc := 29) dD_sheet_29 rfl rfl ?_
    refine wq_ldc (pc := 30) (z := (-1000001)) dD_sheet_30 kO_D_69 (by decide) ?_
    refine wq_callV (d' := 2) (pc := 32) (as := [vI (-1000001)]) (rest := []) (lo' := [iR 0, iI ((-1000001)), none]) dD_sheet_32 mO_D_finding lV_D_70 sh_0 (by decide) cl_10 rfl rfl rfl rfl rfl rfl ?_
    refine sp_D_finding (k := 1) (by decide) (by decide) (by decide) hS ?_
    show Wq 3 0 0 mD_sheet 35 [iR 0, iI 2, iI x2, iI x3] [vI (-1000001)] (sI M 69 1 (wr (gI M 69 1 + 1))) _
    refine wq_ireturn (pc := 35) dD_sheet_35 trivial ?_
    exact H

set_option maxRecDepth 20000 in
theorem B_D_sheet_s2_87 {x2 x3 : Int} {M : Mm} {Q : Mm → Option Mv → Prop} (H : Q M (some (vI 1))) : Wq 3 0 0 mD_sheet 87 [iR 0, iI 2, iI x2, iI x3] [] M Q := by
  refine wq_iconst (pc := 87) dD_sheet_87 rfl ?_
  refine wq_ireturn (pc := 88) dD_sheet_88 trivial ?_
  exact H
set_option maxRecDepth 20000 in
theorem B_D_put_s2_0 {x2 x3 : Int} {M : Mm} {Q : Mm → Option Mv → Prop} (hS : RefOK M) (H : ((0 ≤ (2 : Int) ∧ (2 : Int) ≤ 3 → ((¬ gI M 76 1 = 0 → ((-2147483648 ≤ gI M 76 2 - 1 ∧ gI M 76 2 - 1 < 2147483648) ∧ ((0 ≤ x2 ∧ x2 ≤ gI M 76 2 - 1 → Wq 1 0 0 mS_cut 0 [iR 76, iI x3] [] M (fun M' v => Wq 3 0 0 mD_put 71 [iR 0, iI 2, iI x2, iI x3, iR 76] (v.toList ++ [vI x2, vR 77]) M' Q)) ∧ (¬ (0 ≤ x2 ∧ x2 ≤ gI M 76 2 - 1) → Q (sI M 69 1 (wr (gI M 69 1 + 1))) (some (vI (-1000001))))))) ∧ (gI M 76 1 = 0 → Q (sI M 69 2 (wr (gI M 69 2 + 1))) (some (vI (-1000002)))))) ∧ (¬ (0 ≤ (2 : Int) ∧ (2 : Int) ≤ 3) → Q (sI M 69 1 (wr (gI M 69 1 + 1))) (some (vI (-1000001)))))) : Wq 3 0 0 mD_put 0 [iR 0, iI 2, iI x2, iI x3, none] [] M Q := by
  refine wq_iload_n (pc := 0) dD_put_0 rfl rfl ?_
  refine wq_callS (d' := 2) (pc := 1) (as := [vI 2]) (rest := []) (lo' := [iI 2]) dD_put_1 mO_D_isSheet lS_D_284 rfl rfl rfl rfl rfl rfl ?_
  refine sp_D_isSheet (fun c1 => ?_) (fun c1 => ?_)
  · have H := H.1 c1
    show Wq 3 0 0 mD_put 4 [iR 0, iI 2, iI x2, iI x3, none] [vI 1] M _
    refine wq_if_ne (pc := 4) (tgt := 14) dD_put_4 (by decide) (fun _ => ?_) (fun q => absurd q (by decide))
    refine wq_aload_n (pc := 14) dD_put_14 rfl rfl ?_
    refine wq_getR (pc := 15) (z := 5) (b := 68) dD_put_15 fO_D_42 sh_0 rfl rfl (rf_0_5 hS) ?_
    refine wq_iload_n (pc := 18) dD_put_18 rfl rfl ?_
    refine wq_aald (pc := 19) (b := 76) dD_put_19 sh_68 (by decide) (by decide) (rf_68_2 hS) ?_
    refine wq_astore (pc := 20) (lo' := [iR 0, iI 2, iI x2, iI x3, iR 76]) dD_put_20 rfl rfl ?_
    refine wq_aload (pc := 22) dD_put_22 rfl ?_
    refine wq_getI (pc := 24) (z := 1) dD_put_24 fO_D_287 sh_76 rfl rfl ?_
    refine wq_if_ne (pc := 27) (tgt := 37) dD_put_27 (by decide) (fun c2 => ?_) (fun c2 => ?_)
    · have H := H.1 c2
      obtain ⟨s3, H⟩ := H
      refine wq_iload_n (pc := 37) dD_put_37 rfl rfl ?_
      refine wq_iconst (pc := 38) dD_put_38 rfl ?_
      refine wq_aload (pc := 39) dD_put_39 rfl ?_
      refine wq_getI (pc := 41) (z := 2) dD_put_41 fO_D_320 sh_76 rfl rfl ?_
      refine wq_iconst (pc := 44) dD_put_44 rfl ?_
      refine wq_isub (pc := 45) dD_put_45 ?_
      refine wq_re (x := (wr (gI M 76 2 - 1))) (y := (gI M 76 2 - 1)) (Eq.trans (wr_eq (by omega) (by omega)) (by omega)) ?_
      refine wq_callS (d' := 1) (pc := 46) (as := [vI x2, vI 0, vI (gI M 76 2 - 1)]) (rest := []) (lo' := [iI x2, iI 0, iI (gI M 76 2 - 1)]) dD_put_46 mO_D_within lS_D_65 rfl rfl rfl rfl rfl rfl ?_
      refine sp_D_within (fun c4 => ?_) (fun c4 => ?_)
      · have H := H.1 c4
        show Wq 3 0 0 mD_put 49 [iR 0, iI 2, iI x2, iI x3, iR 76] [vI 1] M _
        refine wq_if_ne (pc := 49) (tgt := 59) dD_put_49 (by decide) (fun _ => ?_) (fun q => absurd q (by decide))
        refine wq_aload (pc := 59) dD_put_59 rfl ?_
        refine wq_getR (pc := 61) (z := 0) (b := 77) dD_put_61 fO_D_294 sh_76 rfl rfl (rf_76_0 hS) ?_
        refine wq_iload_n (pc := 64) dD_put_64 rfl rfl ?_
        refine wq_aload (pc := 65) dD_put_65 rfl ?_
        refine wq_iload_n (pc := 67) dD_put_67 rfl rfl ?_
        refine wq_callV (d' := 1) (pc := 68) (as := [vI x3]) (rest := [vI x2, vR 77]) (lo' := [iR 76, iI x3]) dD_put_68 mO_S_cut lV_D_323 sh_76 (by decide) cl_6 rfl rfl rfl rfl rfl rfl ?_
        exact H
      · have H := H.2 c4
        show Wq 3 0 0 mD_put 49 [iR 0, iI 2, iI x2, iI x3, iR 76] [vI 0] M _
        refine wq_if_ne (pc := 49) (tgt := 59) dD_put_49 (by decide) (fun q => absurd q (by decide)) (fun _ => ?_)
        refine wq_aload_n (pc := 52) dD_put_52 rfl rfl ?_
        refine wq_ldc (pc := 53) (z := (-1000001)) dD_put_53 kO_D_69 (by decide) ?_
        refine wq_callV (d' := 2) (pc := 55) (as := [vI (-1000001)]) (rest := []) (lo' := [iR 0, iI ((-1000001)), none]) dD_put_55 mO_D_finding lV_D_70 sh_0 (by decide) cl_10 rfl rfl rfl rfl rfl rfl ?_
        refine sp_D_finding (k := 1) (by decide) (by decide) (by decide) hS ?_
        show Wq 3 0 0 mD_put 58 [iR 0, iI 2, iI x2, iI x3, iR 76] [vI (-1000001)] (sI M 69 1 (wr (gI M 69 1 + 1))) _
        refine wq_ireturn (pc := 58) dD_put_58 trivial ?_
        exact H
    · have H := H.2 c2
      refine wq_aload_n (pc := 30) dD_put_30 rfl rfl ?_
      refine wq_ldc (pc := 31) (z := (-1000002)) dD_put_31 kO_D_125 (by decide) ?_
      refine wq_callV (d' := 2) (pc := 33) (as := [vI (-1000002)]) (rest := []) (lo' := [iR 0, iI ((-1000002)), none]) dD_put_33 mO_D_finding lV_D_70 sh_0 (by decide) cl_10 rfl rfl rfl rfl rfl rfl ?_
      refine sp_D_finding (k := 2) (by decide) (by decide) (by decide) hS ?_
      show Wq 3 0 0 mD_put 36 [iR 0, iI 2, iI x2, iI x3, iR 76] [vI (-1000002)] (sI M 69 2 (wr (gI M 69 2 + 1))) _
      refine wq_ireturn (pc := 36) dD_put_36 trivial ?_
      exact H
  · have H := H.2 c1
    show Wq 3 0 0 mD_put 4 [iR 0, iI 2, iI x2, iI x3, none] [vI 0] M _
    refine wq_if_ne (pc := 4) (tgt := 14) dD_put_4 (by decide) (fun q => absurd q (by decide)) (fun _ => ?_)
    refine wq_aload_n (pc := 7) dD_put_7 rfl rfl ?_
    refine wq_ldc (pc := 8) (z := (-1000001)) dD_put_8 kO_D_69 (by decide) ?_
    refine wq_callV (d' := 2) (pc := 10) (as := [vI (-1000001)]) (rest := []) (lo' := [iR 0, iI ((-1000001)), none]) dD_put_10 mO_D_finding lV_D_70 sh_0 (by decide) cl_10 rfl rfl rfl rfl rfl rfl ?_
    refine sp_D_finding (k := 1) (by decide) (by decide) (by decide) hS ?_
    show Wq 3 0 0 mD_put 13 [iR 0, iI 2, iI x2, iI x3, none] [vI (-1000001)] (sI M 69 1 (wr (gI M 69 1 + 1))) _
    refine wq_ireturn (pc := 13) dD_put_13 trivial ?_
    exact H

set_option maxRecDepth 20000 in
theorem B_D_put_s2_71 {x2 x3 y0 y1 : Int} {M : Mm} {Q : Mm → Option Mv → Prop} (H : ((0 ≤ y1 ∧ y1 < 24) ∧ Q (sI M 77 y1 y0) (some (vI 1)))) : Wq 3 0 0 mD_put 71 [iR 0, iI 2, iI x2, iI x3, iR 76] [vI y0, vI y1, vR 77] M Q := by
  obtain ⟨s1, H⟩ := H
  refine wq_iast (pc := 71) dD_put_71 sh_77 (by decide) s1.1 s1.2 ?_
  refine wq_iconst (pc := 72) dD_put_72 rfl ?_
  refine wq_ireturn (pc := 73) dD_put_73 trivial ?_
  exact H
set_option maxRecDepth 20000 in
theorem B_D_move_s20_0 {x2 x4 x5 : Int} {M : Mm} {Q : Mm → Option Mv → Prop} (hS : RefOK M) (H : ((0 ≤ (2 : Int) ∧ (2 : Int) ≤ 3 → ((0 ≤ (0 : Int) ∧ (0 : Int) ≤ 3 → ((gI M 76 1 = 0 → Q (sI M 69 2 (wr (gI M 69 2 + 1))) (some (vI (-1000002)))) ∧ (¬ gI M 76 1 = 0 → ((¬ gI M 72 1 = 0 → ((gI M 76 1 = gI M 72 1 → ((x5 < 0 → Q (sI M 69 1 (wr (gI M 69 1 + 1))) (some (vI (-1000001)))) ∧ (¬ x5 < 0 → ((-2147483648 ≤ gI M 76 2 - x5 ∧ gI M 76 2 - x5 < 2147483648) ∧ ((0 ≤ x2 ∧ x2 ≤ gI M 76 2 - x5 → ((-2147483648 ≤ gI M 72 2 - x5 ∧ gI M 72 2 - x5 < 2147483648) ∧ ((0 ≤ x4 ∧ x4 ≤ gI M 72 2 - x5 → ((0 ≤ x2 ∧ 0 ≤ x4 ∧ 0 ≤ x5 ∧ x2 + x5 ≤ 24 ∧ x4 + x5 ≤ 24) ∧ Q (cI M 77 x2 73 x4 x5) (some (vI x5)))) ∧ (¬ (0 ≤ x4 ∧ x4 ≤ gI M 72 2 - x5) → Q (sI M 69 1 (wr (gI M 69 1 + 1))) (some (vI (-1000001))))))) ∧ (¬ (0 ≤ x2 ∧ x2 ≤ gI M 76 2 - x5) → Q (sI M 69 1 (wr (gI M 69 1 + 1))) (some (vI (-1000001))))))))) ∧ (¬ gI M 76 1 = gI M 72 1 → Q (sI M 69 5 (wr (gI M 69 5 + 1))) (some (vI (-1000005)))))) ∧ (gI M 72 1 = 0 → Q (sI M 69 2 (wr (gI M 69 2 + 1))) (some (vI (-1000002)))))))) ∧ (¬ (0 ≤ (0 : Int) ∧ (0 : Int) ≤ 3) → Q (sI M 69 1 (wr (gI M 69 1 + 1))) (some (vI (-1000001)))))) ∧ (¬ (0 ≤ (2 : Int) ∧ (2 : Int) ≤ 3) → Q (sI M 69 1 (wr (gI M 69 1 + 1))) (some (vI (-1000001)))))) : Wq 3 0 0 mD_move 0 [iR 0, iI 2, iI x2, iI 0, iI x4, iI x5, none, none] [] M Q := by
  refine wq_iload_n (pc := 0) dD_move_0 rfl rfl ?_
  refine wq_callS (d' := 2) (pc := 1) (as := [vI 2]) (rest := []) (lo' := [iI 2]) dD_move_1 mO_D_isSheet lS_D_284 rfl rfl rfl rfl rfl rfl ?_
  refine sp_D_isSheet (fun c1 => ?_) (fun c1 => ?_)
  · have H := H.1 c1
    show Wq 3 0 0 mD_move 4 [iR 0, iI 2, iI x2, iI 0, iI x4, iI x5, none, none] [vI 1] M _
    refine wq_if_eq (pc := 4) (tgt := 14) dD_move_4 (by decide) (fun q => absurd q (by decide)) (fun _ => ?_)
    refine wq_iload_n (pc := 7) dD_move_7 rfl rfl ?_
    refine wq_callS (d' := 2) (pc := 8) (as := [vI 0]) (rest := []) (lo' := [iI 0]) dD_move_8 mO_D_isSheet lS_D_284 rfl rfl rfl rfl rfl rfl ?_
    refine sp_D_isSheet (fun c2 => ?_) (fun c2 => ?_)
    · have H := H.1 c2
      show Wq 3 0 0 mD_move 11 [iR 0, iI 2, iI x2, iI 0, iI x4, iI x5, none, none] [vI 1] M _
      refine wq_if_ne (pc := 11) (tgt := 21) dD_move_11 (by decide) (fun _ => ?_) (fun q => absurd q (by decide))
      refine wq_aload_n (pc := 21) dD_move_21 rfl rfl ?_
      refine wq_getR (pc := 22) (z := 5) (b := 68) dD_move_22 fO_D_42 sh_0 rfl rfl (rf_0_5 hS) ?_
      refine wq_iload_n (pc := 25) dD_move_25 rfl rfl ?_
      refine wq_aald (pc := 26) (b := 76) dD_move_26 sh_68 (by decide) (by decide) (rf_68_2 hS) ?_
      refine wq_astore (pc := 27) (lo' := [iR 0, iI 2, iI x2, iI 0, iI x4, iI x5, iR 76, none]) dD_move_27 rfl rfl ?_
      refine wq_aload_n (pc := 29) dD_move_29 rfl rfl ?_
      refine wq_getR (pc := 30) (z := 5) (b := 68) dD_move_30 fO_D_42 sh_0 rfl rfl (rf_0_5 hS) ?_
      refine wq_iload_n (pc := 33) dD_move_33 rfl rfl ?_
      refine wq_aald (pc := 34) (b := 72) dD_move_34 sh_68 (by decide) (by decide) (rf_68_0 hS) ?_
      refine wq_astore (pc := 35) (lo' := [iR 0, iI 2, iI x2, iI 0, iI x4, iI x5, iR 76, iR 72]) dD_move_35 rfl rfl ?_
      refine wq_aload (pc := 37) dD_move_37 rfl ?_
      refine wq_getI (pc := 39) (z := 1) dD_move_39 fO_D_287 sh_76 rfl rfl ?_
      refine wq_if_eq (pc := 42) (tgt := 53) dD_move_42 (by decide) (fun c3 => ?_) (fun c3 => ?_)
      · have H := H.1 c3
        refine wq_aload_n (pc := 53) dD_move_53 rfl rfl ?_
        refine wq_ldc (pc := 54) (z := (-1000002)) dD_move_54 kO_D_125 (by decide) ?_
        refine wq_callV (d' := 2) (pc := 56) (as := [vI (-1000002)]) (rest := []) (lo' := [iR 0, iI ((-1000002)), none]) dD_move_56 mO_D_finding lV_D_70 sh_0 (by decide) cl_10 rfl rfl rfl rfl rfl rfl ?_
        refine sp_D_finding (k := 2) (by decide) (by decide) (by decide) hS ?_
        show Wq 3 0 0 mD_move 59 [iR 0, iI 2, iI x2, iI 0, iI x4, iI x5, iR 76, iR 72] [vI (-1000002)] (sI M 69 2 (wr (gI M 69 2 + 1))) _
        refine wq_ireturn (pc := 59) dD_move_59 trivial ?_
        exact H
      · have H := H.2 c3
        refine wq_aload (pc := 45) dD_move_45 rfl ?_
        refine wq_getI (pc := 47) (z := 1) dD_move_47 fO_D_287 sh_72 rfl rfl ?_
        refine wq_if_ne (pc := 50) (tgt := 60) dD_move_50 (by decide) (fun c4 => ?_) (fun c4 => ?_)
        · have H := H.1 c4
          refine wq_aload (pc := 60) dD_move_60 rfl ?_
          refine wq_getI (pc := 62) (z := 1) dD_move_62 fO_D_287 sh_76 rfl rfl ?_
          refine wq_aload (pc := 65) dD_move_65 rfl ?_
          refine wq_getI (pc := 67) (z := 1) dD_move_67 fO_D_287 sh_72 rfl rfl ?_
          refine wq_icmp_eq (pc := 70) (tgt := 80) dD_move_70 (by decide) (fun c5 => ?_) (fun c5 => ?_)
          · have H := H.1 c5
            refine wq_iload (pc := 80) dD_move_80 rfl ?_
            refine wq_if_lt (pc := 82) (tgt := 118) dD_move_82 (by decide) (fun c6 => ?_) (fun c6 => ?_)
            · have H := H.1 c6
              refine wq_aload_n (pc := 118) dD_move_118 rfl rfl ?_
              refine wq_ldc (pc := 119) (z := (-1000001)) dD_move_119 kO_D_69 (by decide) ?_
              refine wq_callV (d' := 2) (pc := 121) (as := [vI (-1000001)]) (rest := []) (lo' := [iR 0, iI ((-1000001)), none]) dD_move_121 mO_D_finding lV_D_70 sh_0 (by decide) cl_10 rfl rfl rfl rfl rfl rfl ?_
              refine sp_D_finding (k := 1) (by decide) (by decide) (by decide) hS ?_
              show Wq 3 0 0 mD_move 124 [iR 0, iI 2, iI x2, iI 0, iI x4, iI x5, iR 76, iR 72] [vI (-1000001)] (sI M 69 1 (wr (gI M 69 1 + 1))) _
              refine wq_ireturn (pc := 124) dD_move_124 trivial ?_
              exact H
            · have H := H.2 c6
              obtain ⟨s7, H⟩ := H
              refine wq_iload_n (pc := 85) dD_move_85 rfl rfl ?_
              refine wq_iconst (pc := 86) dD_move_86 rfl ?_
              refine wq_aload (pc := 87) dD_move_87 rfl ?_
              refine wq_getI (pc := 89) (z := 2) dD_move_89 fO_D_320 sh_76 rfl rfl ?_
              refine wq_iload (pc := 92) dD_move_92 rfl ?_
              refine wq_isub (pc := 94) dD_move_94 ?_
              refine wq_re (x := (wr (gI M 76 2 - x5))) (y := (gI M 76 2 - x5)) (Eq.trans (wr_eq (by omega) (by omega)) (by omega)) ?_
              refine wq_callS (d' := 1) (pc := 95) (as := [vI x2, vI 0, vI (gI M 76 2 - x5)]) (rest := []) (lo' := [iI x2, iI 0, iI (gI M 76 2 - x5)]) dD_move_95 mO_D_within lS_D_65 rfl rfl rfl rfl rfl rfl ?_
              refine sp_D_within (fun c8 => ?_) (fun c8 => ?_)
              · have H := H.1 c8
                show Wq 3 0 0 mD_move 98 [iR 0, iI 2, iI x2, iI 0, iI x4, iI x5, iR 76, iR 72] [vI 1] M _
                obtain ⟨s9, H⟩ := H
                refine wq_if_eq (pc := 98) (tgt := 118) dD_move_98 (by decide) (fun q => absurd q (by decide)) (fun _ => ?_)
                refine wq_iload (pc := 101) dD_move_101 rfl ?_
                refine wq_iconst (pc := 103) dD_move_103 rfl ?_
                refine wq_aload (pc := 104) dD_move_104 rfl ?_
                refine wq_getI (pc := 106) (z := 2) dD_move_106 fO_D_320 sh_72 rfl rfl ?_
                refine wq_iload (pc := 109) dD_move_109 rfl ?_
                refine wq_isub (pc := 111) dD_move_111 ?_
                refine wq_re (x := (wr (gI M 72 2 - x5))) (y := (gI M 72 2 - x5)) (Eq.trans (wr_eq (by omega) (by omega)) (by omega)) ?_
                refine wq_callS (d' := 1) (pc := 112) (as := [vI x4, vI 0, vI (gI M 72 2 - x5)]) (rest := []) (lo' := [iI x4, iI 0, iI (gI M 72 2 - x5)]) dD_move_112 mO_D_within lS_D_65 rfl rfl rfl rfl rfl rfl ?_
                refine sp_D_within (fun c10 => ?_) (fun c10 => ?_)
                · have H := H.1 c10
                  show Wq 3 0 0 mD_move 115 [iR 0, iI 2, iI x2, iI 0, iI x4, iI x5, iR 76, iR 72] [vI 1] M _
                  obtain ⟨s11, H⟩ := H
                  refine wq_if_ne (pc := 115) (tgt := 125) dD_move_115 (by decide) (fun _ => ?_) (fun q => absurd q (by decide))
                  refine wq_aload (pc := 125) dD_move_125 rfl ?_
                  refine wq_getR (pc := 127) (z := 0) (b := 77) dD_move_127 fO_D_294 sh_76 rfl rfl (rf_76_0 hS) ?_
                  refine wq_iload_n (pc := 130) dD_move_130 rfl rfl ?_
                  refine wq_aload (pc := 131) dD_move_131 rfl ?_
                  refine wq_getR (pc := 133) (z := 0) (b := 73) dD_move_133 fO_D_294 sh_72 rfl rfl (rf_72_0 hS) ?_
                  refine wq_iload (pc := 136) dD_move_136 rfl ?_
                  refine wq_iload (pc := 138) dD_move_138 rfl ?_
                  refine wq_cpI (pc := 140) dD_move_140 aC_D_326 (Or.inl ⟨sh_77, sh_73⟩) (by decide) (by decide) s11.1 s11.2.1 s11.2.2.1 (by have := s11; omega) (by have := s11; omega) rfl ?_
                  refine wq_iload (pc := 143) dD_move_143 rfl ?_
                  refine wq_ireturn (pc := 145) dD_move_145 trivial ?_
                  exact H
                · have H := H.2 c10
                  show Wq 3 0 0 mD_move 115 [iR 0, iI 2, iI x2, iI 0, iI x4, iI x5, iR 76, iR 72] [vI 0] M _
                  refine wq_if_ne (pc := 115) (tgt := 125) dD_move_115 (by decide) (fun q => absurd q (by decide)) (fun _ => ?_)
                  refine wq_aload_n (pc := 118) dD_move_118 rfl rfl ?_
                  refine wq_ldc (pc := 119) (z := (-1000001)) dD_move_119 kO_D_69 (by decide) ?_
                  refine wq_callV (d' := 2) (pc := 121) (as := [vI (-1000001)]) (rest := []) (lo' := [iR 0, iI ((-1000001)), none]) dD_move_121 mO_D_finding lV_D_70 sh_0 (by decide) cl_10 rfl rfl rfl rfl rfl rfl ?_
                  refine sp_D_finding (k := 1) (by decide) (by decide) (by decide) hS ?_
                  show Wq 3 0 0 mD_move 124 [iR 0, iI 2, iI x2, iI 0, iI x4, iI x5, iR 76, iR 72] [vI (-1000001)] (sI M 69 1 (wr (gI M 69 1 + 1))) _
                  refine wq_ireturn (pc := 124) dD_move_124 trivial ?_
                  exact H
              · have H := H.2 c8
                show Wq 3 0 0 mD_move 98 [iR 0, iI 2, iI x2, iI 0, iI x4, iI x5, iR 76, iR 72] [vI 0] M _
                refine wq_if_eq (pc := 98) (tgt := 118) dD_move_98 (by decide) (fun _ => ?_) (fun q => absurd (by decide) q)
                refine wq_aload_n (pc := 118) dD_move_118 rfl rfl ?_
                refine wq_ldc (pc := 119) (z := (-1000001)) dD_move_119 kO_D_69 (by decide) ?_
                refine wq_callV (d' := 2) (pc := 121) (as := [vI (-1000001)]) (rest := []) (lo' := [iR 0, iI ((-1000001)), none]) dD_move_121 mO_D_finding lV_D_70 sh_0 (by decide) cl_10 rfl rfl rfl rfl rfl rfl ?_
                refine sp_D_finding (k := 1) (by decide) (by decide) (by decide) hS ?_
                show Wq 3 0 0 mD_move 124 [iR 0, iI 2, iI x2, iI 0, iI x4, iI x5, iR 76, iR 72] [vI (-1000001)] (sI M 69 1 (wr (gI M 69 1 + 1))) _
                refine wq_ireturn (pc := 124) dD_move_124 trivial ?_
                exact H
          · have H := H.2 c5
            refine wq_aload_n (pc := 73) dD_move_73 rfl rfl ?_
            refine wq_ldc (pc := 74) (z := (-1000005)) dD_move_74 kO_D_98 (by decide) ?_
            refine wq_callV (d' := 2) (pc := 76) (as := [vI (-1000005)]) (rest := []) (lo' := [iR 0, iI ((-1000005)), none]) dD_move_76 mO_D_finding lV_D_70 sh_0 (by decide) cl_10 rfl rfl rfl rfl rfl rfl ?_
            refine sp_D_finding (k := 5) (by decide) (by decide) (by decide) hS ?_
            show Wq 3 0 0 mD_move 79 [iR 0, iI 2, iI x2, iI 0, iI x4, iI x5, iR 76, iR 72] [vI (-1000005)] (sI M 69 5 (wr (gI M 69 5 + 1))) _
            refine wq_ireturn (pc := 79) dD_move_79 trivial ?_
            exact H
        · have H := H.2 c4
          refine wq_aload_n (pc := 53) dD_move_53 rfl rfl ?_
          refine wq_ldc (pc := 54) (z := (-1000002)) dD_move_54 kO_D_125 (by decide) ?_
          refine wq_callV (d' := 2) (pc := 56) (as := [vI (-1000002)]) (rest := []) (lo' := [iR 0, iI ((-1000002)), none]) dD_move_56 mO_D_finding lV_D_70 sh_0 (by decide) cl_10 rfl rfl rfl rfl rfl rfl ?_
          refine sp_D_finding (k := 2) (by decide) (by decide) (by decide) hS ?_
          show Wq 3 0 0 mD_move 59 [iR 0, iI 2, iI x2, iI 0, iI x4, iI x5, iR 76, iR 72] [vI (-1000002)] (sI M 69 2 (wr (gI M 69 2 + 1))) _
          refine wq_ireturn (pc := 59) dD_move_59 trivial ?_
          exact H
    · have H := H.2 c2
      show Wq 3 0 0 mD_move 11 [iR 0, iI 2, iI x2, iI 0, iI x4, iI x5, none, none] [vI 0] M _
      refine wq_if_ne (pc := 11) (tgt := 21) dD_move_11 (by decide) (fun q => absurd q (by decide)) (fun _ => ?_)
      refine wq_aload_n (pc := 14) dD_move_14 rfl rfl ?_
      refine wq_ldc (pc := 15) (z := (-1000001)) dD_move_15 kO_D_69 (by decide) ?_
      refine wq_callV (d' := 2) (pc := 17) (as := [vI (-1000001)]) (rest := []) (lo' := [iR 0, iI ((-1000001)), none]) dD_move_17 mO_D_finding lV_D_70 sh_0 (by decide) cl_10 rfl rfl rfl rfl rfl rfl ?_
      refine sp_D_finding (k := 1) (by decide) (by decide) (by decide) hS ?_
      show Wq 3 0 0 mD_move 20 [iR 0, iI 2, iI x2, iI 0, iI x4, iI x5, none, none] [vI (-1000001)] (sI M 69 1 (wr (gI M 69 1 + 1))) _
      refine wq_ireturn (pc := 20) dD_move_20 trivial ?_
      exact H
  · have H := H.2 c1
    show Wq 3 0 0 mD_move 4 [iR 0, iI 2, iI x2, iI 0, iI x4, iI x5, none, none] [vI 0] M _
    refine wq_if_eq (pc := 4) (tgt := 14) dD_move_4 (by decide) (fun _ => ?_) (fun q => absurd (by decide) q)
    refine wq_aload_n (pc := 14) dD_move_14 rfl rfl ?_
    refine wq_ldc (pc := 15) (z := (-1000001)) dD_move_15 kO_D_69 (by decide) ?_
    refine wq_callV (d' := 2) (pc := 17) (as := [vI (-1000001)]) (rest := []) (lo' := [iR 0, iI ((-1000001)), none]) dD_move_17 mO_D_finding lV_D_70 sh_0 (by decide) cl_10 rfl rfl rfl rfl rfl rfl ?_
    refine sp_D_finding (k := 1) (by decide) (by decide) (by decide) hS ?_
    show Wq 3 0 0 mD_move 20 [iR 0, iI 2, iI x2, iI 0, iI x4, iI x5, none, none] [vI (-1000001)] (sI M 69 1 (wr (gI M 69 1 + 1))) _
    refine wq_ireturn (pc := 20) dD_move_20 trivial ?_
    exact H
set_option maxRecDepth 20000 in
theorem B_D_move_s21_0 {x2 x4 x5 : Int} {M : Mm} {Q : Mm → Option Mv → Prop} (hS : RefOK M) (H : ((0 ≤ (2 : Int) ∧ (2 : Int) ≤ 3 → ((0 ≤ (1 : Int) ∧ (1 : Int) ≤ 3 → ((gI M 76 1 = 0 → Q (sI M 69 2 (wr (gI M 69 2 + 1))) (some (vI (-1000002)))) ∧ (¬ gI M 76 1 = 0 → ((¬ gI M 74 1 = 0 → ((gI M 76 1 = gI M 74 1 → ((x5 < 0 → Q (sI M 69 1 (wr (gI M 69 1 + 1))) (some (vI (-1000001)))) ∧ (¬ x5 < 0 → ((-2147483648 ≤ gI M 76 2 - x5 ∧ gI M 76 2 - x5 < 2147483648) ∧ ((0 ≤ x2 ∧ x2 ≤ gI M 76 2 - x5 → ((-2147483648 ≤ gI M 74 2 - x5 ∧ gI M 74 2 - x5 < 2147483648) ∧ ((0 ≤ x4 ∧ x4 ≤ gI M 74 2 - x5 → ((0 ≤ x2 ∧ 0 ≤ x4 ∧ 0 ≤ x5 ∧ x2 + x5 ≤ 24 ∧ x4 + x5 ≤ 24) ∧ Q (cI M 77 x2 75 x4 x5) (some (vI x5)))) ∧ (¬ (0 ≤ x4 ∧ x4 ≤ gI M 74 2 - x5) → Q (sI M 69 1 (wr (gI M 69 1 + 1))) (some (vI (-1000001))))))) ∧ (¬ (0 ≤ x2 ∧ x2 ≤ gI M 76 2 - x5) → Q (sI M 69 1 (wr (gI M 69 1 + 1))) (some (vI (-1000001))))))))) ∧ (¬ gI M 76 1 = gI M 74 1 → Q (sI M 69 5 (wr (gI M 69 5 + 1))) (some (vI (-1000005)))))) ∧ (gI M 74 1 = 0 → Q (sI M 69 2 (wr (gI M 69 2 + 1))) (some (vI (-1000002)))))))) ∧ (¬ (0 ≤ (1 : Int) ∧ (1 : Int) ≤ 3) → Q (sI M 69 1 (wr (gI M 69 1 + 1))) (some (vI (-1000001)))))) ∧ (¬ (0 ≤ (2 : Int) ∧ (2 : Int) ≤ 3) → Q (sI M 69 1 (wr (gI M 69 1 + 1))) (some (vI (-1000001)))))) : Wq 3 0 0 mD_move 0 [iR 0, iI 2, iI x2, iI 1, iI x4, iI x5, none, none] [] M Q := by
  refine wq_iload_n (pc := 0) dD_move_0 rfl rfl ?_
  refine wq_callS (d' := 2) (pc := 1) (as := [vI 2]) (rest := []) (lo' := [iI 2]) dD_move_1 mO_D_isSheet lS_D_284 rfl rfl rfl rfl rfl rfl ?_
  refine sp_D_isSheet (fun c1 => ?_) (fun c1 => ?_)
  · have H := H.1 c1
    show Wq 3 0 0 mD_move 4 [iR 0, iI 2, iI x2, iI 1, iI x4, iI x5, none, none] [vI 1] M _
    refine wq_if_eq (pc := 4) (tgt := 14) dD_move_4 (by decide) (fun q => absurd q (by decide)) (fun _ => ?_)
    refine wq_iload_n (pc := 7) dD_move_7 rfl rfl ?_
    refine wq_callS (d' := 2) (pc := 8) (as := [vI 1]) (rest := []) (lo' := [iI 1]) dD_move_8 mO_D_isSheet lS_D_284 rfl rfl rfl rfl rfl rfl ?_
    refine sp_D_isSheet (fun c2 => ?_) (fun c2 => ?_)
    · have H := H.1 c2
      show Wq 3 0 0 mD_move 11 [iR 0, iI 2, iI x2, iI 1, iI x4, iI x5, none, none] [vI 1] M _
      refine wq_if_ne (pc := 11) (tgt := 21) dD_move_11 (by decide) (fun _ => ?_) (fun q => absurd q (by decide))
      refine wq_aload_n (pc := 21) dD_move_21 rfl rfl ?_
      refine wq_getR (pc := 22) (z := 5) (b := 68) dD_move_22 fO_D_42 sh_0 rfl rfl (rf_0_5 hS) ?_
      refine wq_iload_n (pc := 25) dD_move_25 rfl rfl ?_
      refine wq_aald (pc := 26) (b := 76) dD_move_26 sh_68 (by decide) (by decide) (rf_68_2 hS) ?_
      refine wq_astore (pc := 27) (lo' := [iR 0, iI 2, iI x2, iI 1, iI x4, iI x5, iR 76, none]) dD_move_27 rfl rfl ?_
      refine wq_aload_n (pc := 29) dD_move_29 rfl rfl ?_
      refine wq_getR (pc := 30) (z := 5) (b := 68) dD_move_30 fO_D_42 sh_0 rfl rfl (rf_0_5 hS) ?_
      refine wq_iload_n (pc := 33) dD_move_33 rfl rfl ?_
      refine wq_aald (pc := 34) (b := 74) dD_move_34 sh_68 (by decide) (by decide) (rf_68_1 hS) ?_
      refine wq_astore (pc := 35) (lo' := [iR 0, iI 2, iI x2, iI 1, iI x4, iI x5, iR 76, iR 74]) dD_move_35 rfl rfl ?_
      refine wq_aload (pc := 37) dD_move_37 rfl ?_
      refine wq_getI (pc := 39) (z := 1) dD_move_39 fO_D_287 sh_76 rfl rfl ?_
      refine wq_if_eq (pc := 42) (tgt := 53) dD_move_42 (by decide) (fun c3 => ?_) (fun c3 => ?_)
      · have H := H.1 c3
        refine wq_aload_n (pc := 53) dD_move_53 rfl rfl ?_
        refine wq_ldc (pc := 54) (z := (-1000002)) dD_move_54 kO_D_125 (by decide) ?_
        refine wq_callV (d' := 2) (pc := 56) (as := [vI (-1000002)]) (rest := []) (lo' := [iR 0, iI ((-1000002)), none]) dD_move_56 mO_D_finding lV_D_70 sh_0 (by decide) cl_10 rfl rfl rfl rfl rfl rfl ?_
        refine sp_D_finding (k := 2) (by decide) (by decide) (by decide) hS ?_
        show Wq 3 0 0 mD_move 59 [iR 0, iI 2, iI x2, iI 1, iI x4, iI x5, iR 76, iR 74] [vI (-1000002)] (sI M 69 2 (wr (gI M 69 2 + 1))) _
        refine wq_ireturn (pc := 59) dD_move_59 trivial ?_
        exact H
      · have H := H.2 c3
        refine wq_aload (pc := 45) dD_move_45 rfl ?_
        refine wq_getI (pc := 47) (z := 1) dD_move_47 fO_D_287 sh_74 rfl rfl ?_
        refine wq_if_ne (pc := 50) (tgt := 60) dD_move_50 (by decide) (fun c4 => ?_) (fun c4 => ?_)
        · have H := H.1 c4
          refine wq_aload (pc := 60) dD_move_60 rfl ?_
          refine wq_getI (pc := 62) (z := 1) dD_move_62 fO_D_287 sh_76 rfl rfl ?_
          refine wq_aload (pc := 65) dD_move_65 rfl ?_
          refine wq_getI (pc := 67) (z := 1) dD_move_67 fO_D_287 sh_74 rfl rfl ?_
          refine wq_icmp_eq (pc := 70) (tgt := 80) dD_move_70 (by decide) (fun c5 => ?_) (fun c5 => ?_)
          · have H := H.1 c5
            refine wq_iload (pc := 80) dD_move_80 rfl ?_
            refine wq_if_lt (pc := 82) (tgt := 118) dD_move_82 (by decide) (fun c6 => ?_) (fun c6 => ?_)
            · have H := H.1 c6
              refine wq_aload_n (pc := 118) dD_move_118 rfl rfl ?_
              refine wq_ldc (pc := 119) (z := (-1000001)) dD_move_119 kO_D_69 (by decide) ?_
              refine wq_callV (d' := 2) (pc := 121) (as := [vI (-1000001)]) (rest := []) (lo' := [iR 0, iI ((-1000001)), none]) dD_move_121 mO_D_finding lV_D_70 sh_0 (by decide) cl_10 rfl rfl rfl rfl rfl rfl ?_
              refine sp_D_finding (k := 1) (by decide) (by decide) (by decide) hS ?_
              show Wq 3 0 0 mD_move 124 [iR 0, iI 2, iI x2, iI 1, iI x4, iI x5, iR 76, iR 74] [vI (-1000001)] (sI M 69 1 (wr (gI M 69 1 + 1))) _
              refine wq_ireturn (pc := 124) dD_move_124 trivial ?_
              exact H
            · have H := H.2 c6
              obtain ⟨s7, H⟩ := H
              refine wq_iload_n (pc := 85) dD_move_85 rfl rfl ?_
              refine wq_iconst (pc := 86) dD_move_86 rfl ?_
              refine wq_aload (pc := 87) dD_move_87 rfl ?_
              refine wq_getI (pc := 89) (z := 2) dD_move_89 fO_D_320 sh_76 rfl rfl ?_
              refine wq_iload (pc := 92) dD_move_92 rfl ?_
              refine wq_isub (pc := 94) dD_move_94 ?_
              refine wq_re (x := (wr (gI M 76 2 - x5))) (y := (gI M 76 2 - x5)) (Eq.trans (wr_eq (by omega) (by omega)) (by omega)) ?_
              refine wq_callS (d' := 1) (pc := 95) (as := [vI x2, vI 0, vI (gI M 76 2 - x5)]) (rest := []) (lo' := [iI x2, iI 0, iI (gI M 76 2 - x5)]) dD_move_95 mO_D_within lS_D_65 rfl rfl rfl rfl rfl rfl ?_
              refine sp_D_within (fun c8 => ?_) (fun c8 => ?_)
              · have H := H.1 c8
                show Wq 3 0 0 mD_move 98 [iR 0, iI 2, iI x2, iI 1, iI x4, iI x5, iR 76, iR 74] [vI 1] M _
                obtain ⟨s9, H⟩ := H
                refine wq_if_eq (pc := 98) (tgt := 118) dD_move_98 (by decide) (fun q => absurd q (by decide)) (fun _ => ?_)
                refine wq_iload (pc := 101) dD_move_101 rfl ?_
                refine wq_iconst (pc := 103) dD_move_103 rfl ?_
                refine wq_aload (pc := 104) dD_move_104 rfl ?_
                refine wq_getI (pc := 106) (z := 2) dD_move_106 fO_D_320 sh_74 rfl rfl ?_
                refine wq_iload (pc := 109) dD_move_109 rfl ?_
                refine wq_isub (pc := 111) dD_move_111 ?_
                refine wq_re (x := (wr (gI M 74 2 - x5))) (y := (gI M 74 2 - x5)) (Eq.trans (wr_eq (by omega) (by omega)) (by omega)) ?_
                refine wq_callS (d' := 1) (pc := 112) (as := [vI x4, vI 0, vI (gI M 74 2 - x5)]) (rest := []) (lo' := [iI x4, iI 0, iI (gI M 74 2 - x5)]) dD_move_112 mO_D_within lS_D_65 rfl rfl rfl rfl rfl rfl ?_
                refine sp_D_within (fun c10 => ?_) (fun c10 => ?_)
                · have H := H.1 c10
                  show Wq 3 0 0 mD_move 115 [iR 0, iI 2, iI x2, iI 1, iI x4, iI x5, iR 76, iR 74] [vI 1] M _
                  obtain ⟨s11, H⟩ := H
                  refine wq_if_ne (pc := 115) (tgt := 125) dD_move_115 (by decide) (fun _ => ?_) (fun q => absurd q (by decide))
                  refine wq_aload (pc := 125) dD_move_125 rfl ?_
                  refine wq_getR (pc := 127) (z := 0) (b := 77) dD_move_127 fO_D_294 sh_76 rfl rfl (rf_76_0 hS) ?_
                  refine wq_iload_n (pc := 130) dD_move_130 rfl rfl ?_
                  refine wq_aload (pc := 131) dD_move_131 rfl ?_
                  refine wq_getR (pc := 133) (z := 0) (b := 75) dD_move_133 fO_D_294 sh_74 rfl rfl (rf_74_0 hS) ?_
                  refine wq_iload (pc := 136) dD_move_136 rfl ?_
                  refine wq_iload (pc := 138) dD_move_138 rfl ?_
                  refine wq_cpI (pc := 140) dD_move_140 aC_D_326 (Or.inl ⟨sh_77, sh_75⟩) (by decide) (by decide) s11.1 s11.2.1 s11.2.2.1 (by have := s11; omega) (by have := s11; omega) rfl ?_
                  refine wq_iload (pc := 143) dD_move_143 rfl ?_
                  refine wq_ireturn (pc := 145) dD_move_145 trivial ?_
                  exact H
                · have H := H.2 c10
                  show Wq 3 0 0 mD_move 115 [iR 0, iI 2, iI x2, iI 1, iI x4, iI x5, iR 76, iR 74] [vI 0] M _
                  refine wq_if_ne (pc := 115) (tgt := 125) dD_move_115 (by decide) (fun q => absurd q (by decide)) (fun _ => ?_)
                  refine wq_aload_n (pc := 118) dD_move_118 rfl rfl ?_
                  refine wq_ldc (pc := 119) (z := (-1000001)) dD_move_119 kO_D_69 (by decide) ?_
                  refine wq_callV (d' := 2) (pc := 121) (as := [vI (-1000001)]) (rest := []) (lo' := [iR 0, iI ((-1000001)), none]) dD_move_121 mO_D_finding lV_D_70 sh_0 (by decide) cl_10 rfl rfl rfl rfl rfl rfl ?_
                  refine sp_D_finding (k := 1) (by decide) (by decide) (by decide) hS ?_
                  show Wq 3 0 0 mD_move 124 [iR 0, iI 2, iI x2, iI 1, iI x4, iI x5, iR 76, iR 74] [vI (-1000001)] (sI M 69 1 (wr (gI M 69 1 + 1))) _
                  refine wq_ireturn (pc := 124) dD_move_124 trivial ?_
                  exact H
              · have H := H.2 c8
                show Wq 3 0 0 mD_move 98 [iR 0, iI 2, iI x2, iI 1, iI x4, iI x5, iR 76, iR 74] [vI 0] M _
                refine wq_if_eq (pc := 98) (tgt := 118) dD_move_98 (by decide) (fun _ => ?_) (fun q => absurd (by decide) q)
                refine wq_aload_n (pc := 118) dD_move_118 rfl rfl ?_
                refine wq_ldc (pc := 119) (z := (-1000001)) dD_move_119 kO_D_69 (by decide) ?_
                refine wq_callV (d' := 2) (pc := 121) (as := [vI (-1000001)]) (rest := []) (lo' := [iR 0, iI ((-1000001)), none]) dD_move_121 mO_D_finding lV_D_70 sh_0 (by decide) cl_10 rfl rfl rfl rfl rfl rfl ?_
                refine sp_D_finding (k := 1) (by decide) (by decide) (by decide) hS ?_
                show Wq 3 0 0 mD_move 124 [iR 0, iI 2, iI x2, iI 1, iI x4, iI x5, iR 76, iR 74] [vI (-1000001)] (sI M 69 1 (wr (gI M 69 1 + 1))) _
                refine wq_ireturn (pc := 124) dD_move_124 trivial ?_
                exact H
          · have H := H.2 c5
            refine wq_aload_n (pc := 73) dD_move_73 rfl rfl ?_
            refine wq_ldc (pc := 74) (z := (-1000005)) dD_move_74 kO_D_98 (by decide) ?_
            refine wq_callV (d' := 2) (pc := 76) (as := [vI (-1000005)]) (rest := []) (lo' := [iR 0, iI ((-1000005)), none]) dD_move_76 mO_D_finding lV_D_70 sh_0 (by decide) cl_10 rfl rfl rfl rfl rfl rfl ?_
            refine sp_D_finding (k := 5) (by decide) (by decide) (by decide) hS ?_
            show Wq 3 0 0 mD_move 79 [iR 0, iI 2, iI x2, iI 1, iI x4, iI x5, iR 76, iR 74] [vI (-1000005)] (sI M 69 5 (wr (gI M 69 5 + 1))) _
            refine wq_ireturn (pc := 79) dD_move_79 trivial ?_
            exact H
        · have H := H.2 c4
          refine wq_aload_n (pc := 53) dD_move_53 rfl rfl ?_
          refine wq_ldc (pc := 54) (z := (-1000002)) dD_move_54 kO_D_125 (by decide) ?_
          refine wq_callV (d' := 2) (pc := 56) (as := [vI (-1000002)]) (rest := []) (lo' := [iR 0, iI ((-1000002)), none]) dD_move_56 mO_D_finding lV_D_70 sh_0 (by decide) cl_10 rfl rfl rfl rfl rfl rfl ?_
          refine sp_D_finding (k := 2) (by decide) (by decide) (by decide) hS ?_
          show Wq 3 0 0 mD_move 59 [iR 0, iI 2, iI x2, iI 1, iI x4, iI x5, iR 76, iR 74] [vI (-1000002)] (sI M 69 2 (wr (gI M 69 2 + 1))) _
          refine wq_ireturn (pc := 59) dD_move_59 trivial ?_
          exact H
    · have H := H.2 c2
      show Wq 3 0 0 mD_move 11 [iR 0, iI 2, iI x2, iI 1, iI x4, iI x5, none, none] [vI 0] M _
      refine wq_if_ne (pc := 11) (tgt := 21) dD_move_11 (by decide) (fun q => absurd q (by decide)) (fun _ => ?_)
      refine wq_aload_n (pc := 14) dD_move_14 rfl rfl ?_
      refine wq_ldc (pc := 15) (z := (-1000001)) dD_move_15 kO_D_69 (by decide) ?_
      refine wq_callV (d' := 2) (pc := 17) (as := [vI (-1000001)]) (rest := []) (lo' := [iR 0, iI ((-1000001)), none]) dD_move_17 mO_D_finding lV_D_70 sh_0 (by decide) cl_10 rfl rfl rfl rfl rfl rfl ?_
      refine sp_D_finding (k := 1) (by decide) (by decide) (by decide) hS ?_
      show Wq 3 0 0 mD_move 20 [iR 0, iI 2, iI x2, iI 1, iI x4, iI x5, none, none] [vI (-1000001)] (sI M 69 1 (wr (gI M 69 1 + 1))) _
      refine wq_ireturn (pc := 20) dD_move_20 trivial ?_
      exact H
  · have H := H.2 c1
    show Wq 3 0 0 mD_move 4 [iR 0, iI 2, iI x2, iI 1, iI x4, iI x5, none, none] [vI 0] M _
    refine wq_if_eq (pc := 4) (tgt := 14) dD_move_4 (by decide) (fun _ => ?_) (fun q => absurd (by decide) q)
    refine wq_aload_n (pc := 14) dD_move_14 rfl rfl ?_
    refine wq_ldc (pc := 15) (z := (-1000001)) dD_move_15 kO_D_69 (by decide) ?_
    refine wq_callV (d' := 2) (pc := 17) (as := [vI (-1000001)]) (rest := []) (lo' := [iR 0, iI ((-1000001)), none]) dD_move_17 mO_D_finding lV_D_70 sh_0 (by decide) cl_10 rfl rfl rfl rfl rfl rfl ?_
    refine sp_D_finding (k := 1) (by decide) (by decide) (by decide) hS ?_
    show Wq 3 0 0 mD_move 20 [iR 0, iI 2, iI x2, iI 1, iI x4, iI x5, none, none] [vI (-1000001)] (sI M 69 1 (wr (gI M 69 1 + 1))) _
    refine wq_ireturn (pc := 20) dD_move_20 trivial ?_
    exact H
set_option maxRecDepth 20000 in
theorem B_D_move_s22_0 {x2 x4 x5 : Int} {M : Mm} {Q : Mm → Option Mv → Prop} (hS : RefOK M) (H : ((0 ≤ (2 : Int) ∧ (2 : Int) ≤ 3 → ((0 ≤ (2 : Int) ∧ (2 : Int) ≤ 3 → ((gI M 76 1 = 0 → Q (sI M 69 2 (wr (gI M 69 2 + 1))) (some (vI (-1000002)))) ∧ (¬ gI M 76 1 = 0 → ((¬ gI M 76 1 = 0 → ((gI M 76 1 = gI M 76 1 → ((x5 < 0 → Q (sI M 69 1 (wr (gI M 69 1 + 1))) (some (vI (-1000001)))) ∧ (¬ x5 < 0 → ((-2147483648 ≤ gI M 76 2 - x5 ∧ gI M 76 2 - x5 < 2147483648) ∧ ((0 ≤ x2 ∧ x2 ≤ gI M 76 2 - x5 → ((0 ≤ x4 ∧ x4 ≤ gI M 76 2 - x5 → ((0 ≤ x2 ∧ 0 ≤ x4 ∧ 0 ≤ x5 ∧ x2 + x5 ≤ 24 ∧ x4 + x5 ≤ 24) ∧ Q (cI M 77 x2 77 x4 x5) (some (vI x5)))) ∧ (¬ (0 ≤ x4 ∧ x4 ≤ gI M 76 2 - x5) → Q (sI M 69 1 (wr (gI M 69 1 + 1))) (some (vI (-1000001)))))) ∧ (¬ (0 ≤ x2 ∧ x2 ≤ gI M 76 2 - x5) → Q (sI M 69 1 (wr (gI M 69 1 + 1))) (some (vI (-1000001))))))))) ∧ (¬ gI M 76 1 = gI M 76 1 → Q (sI M 69 5 (wr (gI M 69 5 + 1))) (some (vI (-1000005)))))) ∧ (gI M 76 1 = 0 → Q (sI M 69 2 (wr (gI M 69 2 + 1))) (some (vI (-1000002)))))))) ∧ (¬ (0 ≤ (2 : Int) ∧ (2 : Int) ≤ 3) → Q (sI M 69 1 (wr (gI M 69 1 + 1))) (some (vI (-1000001)))))) ∧ (¬ (0 ≤ (2 : Int) ∧ (2 : Int) ≤ 3) → Q (sI M 69 1 (wr (gI M 69 1 + 1))) (some (vI (-1000001)))))) : Wq 3 0 0 mD_move 0 [iR 0, iI 2, iI x2, iI 2, iI x4, iI x5, none, none] [] M Q := by
  refine wq_iload_n (pc := 0) dD_move_0 rfl rfl ?_
  refine wq_callS (d' := 2) (pc := 1) (as := [vI 2]) (rest := []) (lo' := [iI 2]) dD_move_1 mO_D_isSheet lS_D_284 rfl rfl rfl rfl rfl rfl ?_
  refine sp_D_isSheet (fun c1 => ?_) (fun c1 => ?_)
  · have H := H.1 c1
    show Wq 3 0 0 mD_move 4 [iR 0, iI 2, iI x2, iI 2, iI x4, iI x5, none, none] [vI 1] M _
    refine wq_if_eq (pc := 4) (tgt := 14) dD_move_4 (by decide) (fun q => absurd q (by decide)) (fun _ => ?_)
    refine wq_iload_n (pc := 7) dD_move_7 rfl rfl ?_
    refine wq_callS (d' := 2) (pc := 8) (as := [vI 2]) (rest := []) (lo' := [iI 2]) dD_move_8 mO_D_isSheet lS_D_284 rfl rfl rfl rfl rfl rfl ?_
    refine sp_D_isSheet (fun c2 => ?_) (fun c2 => ?_)
    · have H := H.1 c2
      show Wq 3 0 0 mD_move 11 [iR 0, iI 2, iI x2, iI 2, iI x4, iI x5, none, none] [vI 1] M _
      refine wq_if_ne (pc := 11) (tgt := 21) dD_move_11 (by decide) (fun _ => ?_) (fun q => absurd q (by decide))
      refine wq_aload_n (pc := 21) dD_move_21 rfl rfl ?_
      refine wq_getR (pc := 22) (z := 5) (b := 68) dD_move_22 fO_D_42 sh_0 rfl rfl (rf_0_5 hS) ?_
      refine wq_iload_n (pc := 25) dD_move_25 rfl rfl ?_
      refine wq_aald (pc := 26) (b := 76) dD_move_26 sh_68 (by decide) (by decide) (rf_68_2 hS) ?_
      refine wq_astore (pc := 27) (lo' := [iR 0, iI 2, iI x2, iI 2, iI x4, iI x5, iR 76, none]) dD_move_27 rfl rfl ?_
      refine wq_aload_n (pc := 29) dD_move_29 rfl rfl ?_
      refine wq_getR (pc := 30) (z := 5) (b := 68) dD_move_30 fO_D_42 sh_0 rfl rfl (rf_0_5 hS) ?_
      refine wq_iload_n (pc := 33) dD_move_33 rfl rfl ?_
      refine wq_aald (pc := 34) (b := 76) dD_move_34 sh_68 (by decide) (by decide) (rf_68_2 hS) ?_
      refine wq_astore (pc := 35) (lo' := [iR 0, iI 2, iI x2, iI 2, iI x4, iI x5, iR 76, iR 76]) dD_move_35 rfl rfl ?_
      refine wq_aload (pc := 37) dD_move_37 rfl ?_
      refine wq_getI (pc := 39) (z := 1) dD_move_39 fO_D_287 sh_76 rfl rfl ?_
      refine wq_if_eq (pc := 42) (tgt := 53) dD_move_42 (by decide) (fun c3 => ?_) (fun c3 => ?_)
      · have H := H.1 c3
        refine wq_aload_n (pc := 53) dD_move_53 rfl rfl ?_
        refine wq_ldc (pc := 54) (z := (-1000002)) dD_move_54 kO_D_125 (by decide) ?_
        refine wq_callV (d' := 2) (pc := 56) (as := [vI (-1000002)]) (rest := []) (lo' := [iR 0, iI ((-1000002)), none]) dD_move_56 mO_D_finding lV_D_70 sh_0 (by decide) cl_10 rfl rfl rfl rfl rfl rfl ?_
        refine sp_D_finding (k := 2) (by decide) (by decide) (by decide) hS ?_
        show Wq 3 0 0 mD_move 59 [iR 0, iI 2, iI x2, iI 2, iI x4, iI x5, iR 76, iR 76] [vI (-1000002)] (sI M 69 2 (wr (gI M 69 2 + 1))) _
        refine wq_ireturn (pc := 59) dD_move_59 trivial ?_
        exact H
      · have H := H.2 c3
        refine wq_aload (pc := 45) dD_move_45 rfl ?_
        refine wq_getI (pc := 47) (z := 1) dD_move_47 fO_D_287 sh_76 rfl rfl ?_
        refine wq_if_ne (pc := 50) (tgt := 60) dD_move_50 (by decide) (fun c4 => ?_) (fun c4 => ?_)
        · have H := H.1 c4
          refine wq_aload (pc := 60) dD_move_60 rfl ?_
          refine wq_getI (pc := 62) (z := 1) dD_move_62 fO_D_287 sh_76 rfl rfl ?_
          refine wq_aload (pc := 65) dD_move_65 rfl ?_
          refine wq_getI (pc := 67) (z := 1) dD_move_67 fO_D_287 sh_76 rfl rfl ?_
          refine wq_icmp_eq (pc := 70) (tgt := 80) dD_move_70 (by decide) (fun c5 => ?_) (fun c5 => ?_)
          · have H := H.1 c5
            refine wq_iload (pc := 80) dD_move_80 rfl ?_
            refine wq_if_lt (pc := 82) (tgt := 118) dD_move_82 (by decide) (fun c6 => ?_) (fun c6 => ?_)
            · have H := H.1 c6
              refine wq_aload_n (pc := 118) dD_move_118 rfl rfl ?_
              refine wq_ldc (pc := 119) (z := (-1000001)) dD_move_119 kO_D_69 (by decide) ?_
              refine wq_callV (d' := 2) (pc := 121) (as := [vI (-1000001)]) (rest := []) (lo' := [iR 0, iI ((-1000001)), none]) dD_move_121 mO_D_finding lV_D_70 sh_0 (by decide) cl_10 rfl rfl rfl rfl rfl rfl ?_
              refine sp_D_finding (k := 1) (by decide) (by decide) (by decide) hS ?_
              show Wq 3 0 0 mD_move 124 [iR 0, iI 2, iI x2, iI 2, iI x4, iI x5, iR 76, iR 76] [vI (-1000001)] (sI M 69 1 (wr (gI M 69 1 + 1))) _
              refine wq_ireturn (pc := 124) dD_move_124 trivial ?_
              exact H
            · have H := H.2 c6
              obtain ⟨s7, H⟩ := H
              refine wq_iload_n (pc := 85) dD_move_85 rfl rfl ?_
              refine wq_iconst (pc := 86) dD_move_86 rfl ?_
              refine wq_aload (pc := 87) dD_move_87 rfl ?_
              refine wq_getI (pc := 89) (z := 2) dD_move_89 fO_D_320 sh_76 rfl rfl ?_
              refine wq_iload (pc := 92) dD_move_92 rfl ?_
              refine wq_isub (pc := 94) dD_move_94 ?_
              refine wq_re (x := (wr (gI M 76 2 - x5))) (y := (gI M 76 2 - x5)) (Eq.trans (wr_eq (by omega) (by omega)) (by omega)) ?_
              refine wq_callS (d' := 1) (pc := 95) (as := [vI x2, vI 0, vI (gI M 76 2 - x5)]) (rest := []) (lo' := [iI x2, iI 0, iI (gI M 76 2 - x5)]) dD_move_95 mO_D_within lS_D_65 rfl rfl rfl rfl rfl rfl ?_
              refine sp_D_within (fun c8 => ?_) (fun c8 => ?_)
              · have H := H.1 c8
                show Wq 3 0 0 mD_move 98 [iR 0, iI 2, iI x2, iI 2, iI x4, iI x5, iR 76, iR 76] [vI 1] M _
                refine wq_if_eq (pc := 98) (tgt := 118) dD_move_98 (by decide) (fun q => absurd q (by decide)) (fun _ => ?_)
                refine wq_iload (pc := 101) dD_move_101 rfl ?_
                refine wq_iconst (pc := 103) dD_move_103 rfl ?_
                refine wq_aload (pc := 104) dD_move_104 rfl ?_
                refine wq_getI (pc := 106) (z := 2) dD_move_106 fO_D_320 sh_76 rfl rfl ?_
                refine wq_iload (pc := 109) dD_move_109 rfl ?_
                refine wq_isub (pc := 111) dD_move_111 ?_
                refine wq_re (x := (wr (gI M 76 2 - x5))) (y := (gI M 76 2 - x5)) (Eq.trans (wr_eq (by omega) (by omega)) (by omega)) ?_
                refine wq_callS (d' := 1) (pc := 112) (as := [vI x4, vI 0, vI (gI M 76 2 - x5)]) (rest := []) (lo' := [iI x4, iI 0, iI (gI M 76 2 - x5)]) dD_move_112 mO_D_within lS_D_65 rfl rfl rfl rfl rfl rfl ?_
                refine sp_D_within (fun c9 => ?_) (fun c9 => ?_)
                · have H := H.1 c9
                  show Wq 3 0 0 mD_move 115 [iR 0, iI 2, iI x2, iI 2, iI x4, iI x5, iR 76, iR 76] [vI 1] M _
                  obtain ⟨s10, H⟩ := H
                  refine wq_if_ne (pc := 115) (tgt := 125) dD_move_115 (by decide) (fun _ => ?_) (fun q => absurd q (by decide))
                  refine wq_aload (pc := 125) dD_move_125 rfl ?_
                  refine wq_getR (pc := 127) (z := 0) (b := 77) dD_move_127 fO_D_294 sh_76 rfl rfl (rf_76_0 hS) ?_
                  refine wq_iload_n (pc := 130) dD_move_130 rfl rfl ?_
                  refine wq_aload (pc := 131) dD_move_131 rfl ?_
                  refine wq_getR (pc := 133) (z := 0) (b := 77) dD_move_133 fO_D_294 sh_76 rfl rfl (rf_76_0 hS) ?_
                  refine wq_iload (pc := 136) dD_move_136 rfl ?_
                  refine wq_iload (pc := 138) dD_move_138 rfl ?_
                  refine wq_cpI (pc := 140) dD_move_140 aC_D_326 (Or.inl ⟨sh_77, sh_77⟩) (by decide) (by decide) s10.1 s10.2.1 s10.2.2.1 (by have := s10; omega) (by have := s10; omega) rfl ?_
                  refine wq_iload (pc := 143) dD_move_143 rfl ?_
                  refine wq_ireturn (pc := 145) dD_move_145 trivial ?_
                  exact H
                · have H := H.2 c9
                  show Wq 3 0 0 mD_move 115 [iR 0, iI 2, iI x2, iI 2, iI x4, iI x5, iR 76, iR 76] [vI 0] M _
                  refine wq_if_ne (pc := 115) (tgt := 125) dD_move_115 (by decide) (fun q => absurd q (by decide)) (fun _ => ?_)
                  refine wq_aload_n (pc := 118) dD_move_118 rfl rfl ?_
                  refine wq_ldc (pc := 119) (z := (-1000001)) dD_move_119 kO_D_69 (by decide) ?_
                  refine wq_callV (d' := 2) (pc := 121) (as := [vI (-1000001)]) (rest := []) (lo' := [iR 0, iI ((-1000001)), none]) dD_move_121 mO_D_finding lV_D_70 sh_0 (by decide) cl_10 rfl rfl rfl rfl rfl rfl ?_
                  refine sp_D_finding (k := 1) (by decide) (by decide) (by decide) hS ?_
                  show Wq 3 0 0 mD_move 124 [iR 0, iI 2, iI x2, iI 2, iI x4, iI x5, iR 76, iR 76] [vI (-1000001)] (sI M 69 1 (wr (gI M 69 1 + 1))) _
                  refine wq_ireturn (pc := 124) dD_move_124 trivial ?_
                  exact H
              · have H := H.2 c8
                show Wq 3 0 0 mD_move 98 [iR 0, iI 2, iI x2, iI 2, iI x4, iI x5, iR 76, iR 76] [vI 0] M _
                refine wq_if_eq (pc := 98) (tgt := 118) dD_move_98 (by decide) (fun _ => ?_) (fun q => absurd (by decide) q)
                refine wq_aload_n (pc := 118) dD_move_118 rfl rfl ?_
                refine wq_ldc (pc := 119) (z := (-1000001)) dD_move_119 kO_D_69 (by decide) ?_
                refine wq_callV (d' := 2) (pc := 121) (as := [vI (-1000001)]) (rest := []) (lo' := [iR 0, iI ((-1000001)), none]) dD_move_121 mO_D_finding lV_D_70 sh_0 (by decide) cl_10 rfl rfl rfl rfl rfl rfl ?_
                refine sp_D_finding (k := 1) (by decide) (by decide) (by decide) hS ?_
                show Wq 3 0 0 mD_move 124 [iR 0, iI 2, iI x2, iI 2, iI x4, iI x5, iR 76, iR 76] [vI (-1000001)] (sI M 69 1 (wr (gI M 69 1 + 1))) _
                refine wq_ireturn (pc := 124) dD_move_124 trivial ?_
                exact H
          · have H := H.2 c5
            refine wq_aload_n (pc := 73) dD_move_73 rfl rfl ?_
            refine wq_ldc (pc := 74) (z := (-1000005)) dD_move_74 kO_D_98 (by decide) ?_
            refine wq_callV (d' := 2) (pc := 76) (as := [vI (-1000005)]) (rest := []) (lo' := [iR 0, iI ((-1000005)), none]) dD_move_76 mO_D_finding lV_D_70 sh_0 (by decide) cl_10 rfl rfl rfl rfl rfl rfl ?_
            refine sp_D_finding (k := 5) (by decide) (by decide) (by decide) hS ?_
            show Wq 3 0 0 mD_move 79 [iR 0, iI 2, iI x2, iI 2, iI x4, iI x5, iR 76, iR 76] [vI (-1000005)] (sI M 69 5 (wr (gI M 69 5 + 1))) _
            refine wq_ireturn (pc := 79) dD_move_79 trivial ?_
            exact H
        · have H := H.2 c4
          refine wq_aload_n (pc := 53) dD_move_53 rfl rfl ?_
          refine wq_ldc (pc := 54) (z := (-1000002)) dD_move_54 kO_D_125 (by decide) ?_
          refine wq_callV (d' := 2) (pc := 56) (as := [vI (-1000002)]) (rest := []) (lo' := [iR 0, iI ((-1000002)), none]) dD_move_56 mO_D_finding lV_D_70 sh_0 (by decide) cl_10 rfl rfl rfl rfl rfl rfl ?_
          refine sp_D_finding (k := 2) (by decide) (by decide) (by decide) hS ?_
          show Wq 3 0 0 mD_move 59 [iR 0, iI 2, iI x2, iI 2, iI x4, iI x5, iR 76, iR 76] [vI (-1000002)] (sI M 69 2 (wr (gI M 69 2 + 1))) _
          refine wq_ireturn (pc := 59) dD_move_59 trivial ?_
          exact H
    · have H := H.2 c2
      show Wq 3 0 0 mD_move 11 [iR 0, iI 2, iI x2, iI 2, iI x4, iI x5, none, none] [vI 0] M _
      refine wq_if_ne (pc := 11) (tgt := 21) dD_move_11 (by decide) (fun q => absurd q (by decide)) (fun _ => ?_)
      refine wq_aload_n (pc := 14) dD_move_14 rfl rfl ?_
      refine wq_ldc (pc := 15) (z := (-1000001)) dD_move_15 kO_D_69 (by decide) ?_
      refine wq_callV (d' := 2) (pc := 17) (as := [vI (-1000001)]) (rest := []) (lo' := [iR 0, iI ((-1000001)), none]) dD_move_17 mO_D_finding lV_D_70 sh_0 (by decide) cl_10 rfl rfl rfl rfl rfl rfl ?_
      refine sp_D_finding (k := 1) (by decide) (by decide) (by decide) hS ?_
      show Wq 3 0 0 mD_move 20 [iR 0, iI 2, iI x2, iI 2, iI x4, iI x5, none, none] [vI (-1000001)] (sI M 69 1 (wr (gI M 69 1 + 1))) _
      refine wq_ireturn (pc := 20) dD_move_20 trivial ?_
      exact H
  · have H := H.2 c1
    show Wq 3 0 0 mD_move 4 [iR 0, iI 2, iI x2, iI 2, iI x4, iI x5, none, none] [vI 0] M _
    refine wq_if_eq (pc := 4) (tgt := 14) dD_move_4 (by decide) (fun _ => ?_) (fun q => absurd (by decide) q)
    refine wq_aload_n (pc := 14) dD_move_14 rfl rfl ?_
    refine wq_ldc (pc := 15) (z := (-1000001)) dD_move_15 kO_D_69 (by decide) ?_
    refine wq_callV (d' := 2) (pc := 17) (as := [vI (-1000001)]) (rest := []) (lo' := [iR 0, iI ((-1000001)), none]) dD_move_17 mO_D_finding lV_D_70 sh_0 (by decide) cl_10 rfl rfl rfl rfl rfl rfl ?_
    refine sp_D_finding (k := 1) (by decide) (by decide) (by decide) hS ?_
    show Wq 3 0 0 mD_move 20 [iR 0, iI 2, iI x2, iI 2, iI x4, iI x5, none, none] [vI (-1000001)] (sI M 69 1 (wr (gI M 69 1 + 1))) _
    refine wq_ireturn (pc := 20) dD_move_20 trivial ?_
    exact H
set_option maxRecDepth 20000 in
theorem B_D_move_s23_0 {x2 x4 x5 : Int} {M : Mm} {Q : Mm → Option Mv → Prop} (hS : RefOK M) (H : ((0 ≤ (2 : Int) ∧ (2 : Int) ≤ 3 → ((0 ≤ (3 : Int) ∧ (3 : Int) ≤ 3 → ((gI M 76 1 = 0 → Q (sI M 69 2 (wr (gI M 69 2 + 1))) (some (vI (-1000002)))) ∧ (¬ gI M 76 1 = 0 → ((¬ gI M 78 1 = 0 → ((gI M 76 1 = gI M 78 1 → ((x5 < 0 → Q (sI M 69 1 (wr (gI M 69 1 + 1))) (some (vI (-1000001)))) ∧ (¬ x5 < 0 → ((-2147483648 ≤ gI M 76 2 - x5 ∧ gI M 76 2 - x5 < 2147483648) ∧ ((0 ≤ x2 ∧ x2 ≤ gI M 76 2 - x5 → ((-2147483648 ≤ gI M 78 2 - x5 ∧ gI M 78 2 - x5 < 2147483648) ∧ ((0 ≤ x4 ∧ x4 ≤ gI M 78 2 - x5 → ((0 ≤ x2 ∧ 0 ≤ x4 ∧ 0 ≤ x5 ∧ x2 + x5 ≤ 24 ∧ x4 + x5 ≤ 24) ∧ Q (cI M 77 x2 79 x4 x5) (some (vI x5)))) ∧ (¬ (0 ≤ x4 ∧ x4 ≤ gI M 78 2 - x5) → Q (sI M 69 1 (wr (gI M 69 1 + 1))) (some (vI (-1000001))))))) ∧ (¬ (0 ≤ x2 ∧ x2 ≤ gI M 76 2 - x5) → Q (sI M 69 1 (wr (gI M 69 1 + 1))) (some (vI (-1000001))))))))) ∧ (¬ gI M 76 1 = gI M 78 1 → Q (sI M 69 5 (wr (gI M 69 5 + 1))) (some (vI (-1000005)))))) ∧ (gI M 78 1 = 0 → Q (sI M 69 2 (wr (gI M 69 2 + 1))) (some (vI (-1000002)))))))) ∧ (¬ (0 ≤ (3 : Int) ∧ (3 : Int) ≤ 3) → Q (sI M 69 1 (wr (gI M 69 1 + 1))) (some (vI (-1000001)))))) ∧ (¬ (0 ≤ (2 : Int) ∧ (2 : Int) ≤ 3) → Q (sI M 69 1 (wr (gI M 69 1 + 1))) (some (vI (-1000001)))))) : Wq 3 0 0 mD_move 0 [iR 0, iI 2, iI x2, iI 3, iI x4, iI x5, none, none] [] M Q := by
  refine wq_iload_n (pc := 0) dD_move_0 rfl rfl ?_
  refine wq_callS (d' := 2) (pc := 1) (as := [vI 2]) (rest := []) (lo' := [iI 2]) dD_move_1 mO_D_isSheet lS_D_284 rfl rfl rfl rfl rfl rfl ?_
  refine sp_D_isSheet (fun c1 => ?_) (fun c1 => ?_)
  · have H := H.1 c1
    show Wq 3 0 0 mD_move 4 [iR 0, iI 2, iI x2, iI 3, iI x4, iI x5, none, none] [vI 1] M _
    refine wq_if_eq (pc := 4) (tgt := 14) dD_move_4 (by decide) (fun q => absurd q (by decide)) (fun _ => ?_)
    refine wq_iload_n (pc := 7) dD_move_7 rfl rfl ?_
    refine wq_callS (d' := 2) (pc := 8) (as := [vI 3]) (rest := []) (lo' := [iI 3]) dD_move_8 mO_D_isSheet lS_D_284 rfl rfl rfl rfl rfl rfl ?_
    refine sp_D_isSheet (fun c2 => ?_) (fun c2 => ?_)
    · have H := H.1 c2
      show Wq 3 0 0 mD_move 11 [iR 0, iI 2, iI x2, iI 3, iI x4, iI x5, none, none] [vI 1] M _
      refine wq_if_ne (pc := 11) (tgt := 21) dD_move_11 (by decide) (fun _ => ?_) (fun q => absurd q (by decide))
      refine wq_aload_n (pc := 21) dD_move_21 rfl rfl ?_
      refine wq_getR (pc := 22) (z := 5) (b := 68) dD_move_22 fO_D_42 sh_0 rfl rfl (rf_0_5 hS) ?_
      refine wq_iload_n (pc := 25) dD_move_25 rfl rfl ?_
      refine wq_aald (pc := 26) (b := 76) dD_move_26 sh_68 (by decide) (by decide) (rf_68_2 hS) ?_
      refine wq_astore (pc := 27) (lo' := [iR 0, iI 2, iI x2, iI 3, iI x4, iI x5, iR 76, none]) dD_move_27 rfl rfl ?_
      refine wq_aload_n (pc := 29) dD_move_29 rfl rfl ?_
      refine wq_getR (pc := 30) (z := 5) (b := 68) dD_move_30 fO_D_42 sh_0 rfl rfl (rf_0_5 hS) ?_
      refine wq_iload_n (pc := 33) dD_move_33 rfl rfl ?_
      refine wq_aald (pc := 34) (b := 78) dD_move_34 sh_68 (by decide) (by decide) (rf_68_3 hS) ?_
      refine wq_astore (pc := 35) (lo' := [iR 0, iI 2, iI x2, iI 3, iI x4, iI x5, iR 76, iR 78]) dD_move_35 rfl rfl ?_
      refine wq_aload (pc := 37) dD_move_37 rfl ?_
      refine wq_getI (pc := 39) (z := 1) dD_move_39 fO_D_287 sh_76 rfl rfl ?_
      refine wq_if_eq (pc := 42) (tgt := 53) dD_move_42 (by decide) (fun c3 => ?_) (fun c3 => ?_)
      · have H := H.1 c3
        refine wq_aload_n (pc := 53) dD_move_53 rfl rfl ?_
        refine wq_ldc (pc := 54) (z := (-1000002)) dD_move_54 kO_D_125 (by decide) ?_
        refine wq_callV (d' := 2) (pc := 56) (as := [vI (-1000002)]) (rest := []) (lo' := [iR 0, iI ((-1000002)), none]) dD_move_56 mO_D_finding lV_D_70 sh_0 (by decide) cl_10 rfl rfl rfl rfl rfl rfl ?_
        refine sp_D_finding (k := 2) (by decide) (by decide) (by decide) hS ?_
        show Wq 3 0 0 mD_move 59 [iR 0, iI 2, iI x2, iI 3, iI x4, iI x5, iR 76, iR 78] [vI (-1000002)] (sI M 69 2 (wr (gI M 69 2 + 1))) _
        refine wq_ireturn (pc := 59) dD_move_59 trivial ?_
        exact H
      · have H := H.2 c3
        refine wq_aload (pc := 45) dD_move_45 rfl ?_
        refine wq_getI (pc := 47) (z := 1) dD_move_47 fO_D_287 sh_78 rfl rfl ?_
        refine wq_if_ne (pc := 50) (tgt := 60) dD_move_50 (by decide) (fun c4 => ?_) (fun c4 => ?_)
        · have H := H.1 c4
          refine wq_aload (pc := 60) dD_move_60 rfl ?_
          refine wq_getI (pc := 62) (z := 1) dD_move_62 fO_D_287 sh_76 rfl rfl ?_
          refine wq_aload (pc := 65) dD_move_65 rfl ?_
          refine wq_getI (pc := 67) (z := 1) dD_move_67 fO_D_287 sh_78 rfl rfl ?_
          refine wq_icmp_eq (pc := 70) (tgt := 80) dD_move_70 (by decide) (fun c5 => ?_) (fun c5 => ?_)
          · have H := H.1 c5
            refine wq_iload (pc := 80) dD_move_80 rfl ?_
            refine wq_if_lt (pc := 82) (tgt := 118) dD_move_82 (by decide) (fun c6 => ?_) (fun c6 => ?_)
            · have H := H.1 c6
              refine wq_aload_n (pc := 118) dD_move_118 rfl rfl ?_
              refine wq_ldc (pc := 119) (z := (-1000001)) dD_move_119 kO_D_69 (by decide) ?_
              refine wq_callV (d' := 2) (pc := 121) (as := [vI (-1000001)]) (rest := []) (lo' := [iR 0, iI ((-1000001)), none]) dD_move_121 mO_D_finding lV_D_70 sh_0 (by decide) cl_10 rfl rfl rfl rfl rfl rfl ?_
              refine sp_D_finding (k := 1) (by decide) (by decide) (by decide) hS ?_
              show Wq 3 0 0 mD_move 124 [iR 0, iI 2, iI x2, iI 3, iI x4, iI x5, iR 76, iR 78] [vI (-1000001)] (sI M 69 1 (wr (gI M 69 1 + 1))) _
              refine wq_ireturn (pc := 124) dD_move_124 trivial ?_
              exact H
            · have H := H.2 c6
              obtain ⟨s7, H⟩ := H
              refine wq_iload_n (pc := 85) dD_move_85 rfl rfl ?_
              refine wq_iconst (pc := 86) dD_move_86 rfl ?_
              refine wq_aload (pc := 87) dD_move_87 rfl ?_
              refine wq_getI (pc := 89) (z := 2) dD_move_89 fO_D_320 sh_76 rfl rfl ?_
              refine wq_iload (pc := 92) dD_move_92 rfl ?_
              refine wq_isub (pc := 94) dD_move_94 ?_
              refine wq_re (x := (wr (gI M 76 2 - x5))) (y := (gI M 76 2 - x5)) (Eq.trans (wr_eq (by omega) (by omega)) (by omega)) ?_
              refine wq_callS (d' := 1) (pc := 95) (as := [vI x2, vI 0, vI (gI M 76 2 - x5)]) (rest := []) (lo' := [iI x2, iI 0, iI (gI M 76 2 - x5)]) dD_move_95 mO_D_within lS_D_65 rfl rfl rfl rfl rfl rfl ?_
              refine sp_D_within (fun c8 => ?_) (fun c8 => ?_)
              · have H := H.1 c8
                show Wq 3 0 0 mD_move 98 [iR 0, iI 2, iI x2, iI 3, iI x4, iI x5, iR 76, iR 78] [vI 1] M _
                obtain ⟨s9, H⟩ := H
                refine wq_if_eq (pc := 98) (tgt := 118) dD_move_98 (by decide) (fun q => absurd q (by decide)) (fun _ => ?_)
                refine wq_iload (pc := 101) dD_move_101 rfl ?_
                refine wq_iconst (pc := 103) dD_move_103 rfl ?_
                refine wq_aload (pc := 104) dD_move_104 rfl ?_
                refine wq_getI (pc := 106) (z := 2) dD_move_106 fO_D_320 sh_78 rfl rfl ?_
                refine wq_iload (pc := 109) dD_move_109 rfl ?_
                refine wq_isub (pc := 111) dD_move_111 ?_
                refine wq_re (x := (wr (gI M 78 2 - x5))) (y := (gI M 78 2 - x5)) (Eq.trans (wr_eq (by omega) (by omega)) (by omega)) ?_
                refine wq_callS (d' := 1) (pc := 112) (as := [vI x4, vI 0, vI (gI M 78 2 - x5)]) (rest := []) (lo' := [iI x4, iI 0, iI (gI M 78 2 - x5)]) dD_move_112 mO_D_within lS_D_65 rfl rfl rfl rfl rfl rfl ?_
                refine sp_D_within (fun c10 => ?_) (fun c10 => ?_)
                · have H := H.1 c10
                  show Wq 3 0 0 mD_move 115 [iR 0, iI 2, iI x2, iI 3, iI x4, iI x5, iR 76, iR 78] [vI 1] M _
                  obtain ⟨s11, H⟩ := H
                  refine wq_if_ne (pc := 115) (tgt := 125) dD_move_115 (by decide) (fun _ => ?_) (fun q => absurd q (by decide))
                  refine wq_aload (pc := 125) dD_move_125 rfl ?_
                  refine wq_getR (pc := 127) (z := 0) (b := 77) dD_move_127 fO_D_294 sh_76 rfl rfl (rf_76_0 hS) ?_
                  refine wq_iload_n (pc := 130) dD_move_130 rfl rfl ?_
                  refine wq_aload (pc := 131) dD_move_131 rfl ?_
                  refine wq_getR (pc := 133) (z := 0) (b := 79) dD_move_133 fO_D_294 sh_78 rfl rfl (rf_78_0 hS) ?_
                  refine wq_iload (pc := 136) dD_move_136 rfl ?_
                  refine wq_iload (pc := 138) dD_move_138 rfl ?_
                  refine wq_cpI (pc := 140) dD_move_140 aC_D_326 (Or.inl ⟨sh_77, sh_79⟩) (by decide) (by decide) s11.1 s11.2.1 s11.2.2.1 (by have := s11; omega) (by have := s11; omega) rfl ?_
                  refine wq_iload (pc := 143) dD_move_143 rfl ?_
                  refine wq_ireturn (pc := 145) dD_move_145 trivial ?_
                  exact H
                · have H := H.2 c10
                  show Wq 3 0 0 mD_move 115 [iR 0, iI 2, iI x2, iI 3, iI x4, iI x5, iR 76, iR 78] [vI 0] M _
                  refine wq_if_ne (pc := 115) (tgt := 125) dD_move_115 (by decide) (fun q => absurd q (by decide)) (fun _ => ?_)
                  refine wq_aload_n (pc := 118) dD_move_118 rfl rfl ?_
                  refine wq_ldc (pc := 119) (z := (-1000001)) dD_move_119 kO_D_69 (by decide) ?_
                  refine wq_callV (d' := 2) (pc := 121) (as := [vI (-1000001)]) (rest := []) (lo' := [iR 0, iI ((-1000001)), none]) dD_move_121 mO_D_finding lV_D_70 sh_0 (by decide) cl_10 rfl rfl rfl rfl rfl rfl ?_
                  refine sp_D_finding (k := 1) (by decide) (by decide) (by decide) hS ?_
                  show Wq 3 0 0 mD_move 124 [iR 0, iI 2, iI x2, iI 3, iI x4, iI x5, iR 76, iR 78] [vI (-1000001)] (sI M 69 1 (wr (gI M 69 1 + 1))) _
                  refine wq_ireturn (pc := 124) dD_move_124 trivial ?_
                  exact H
              · have H := H.2 c8
                show Wq 3 0 0 mD_move 98 [iR 0, iI 2, iI x2, iI 3, iI x4, iI x5, iR 76, iR 78] [vI 0] M _
                refine wq_if_eq (pc := 98) (tgt := 118) dD_move_98 (by decide) (fun _ => ?_) (fun q => absurd (by decide) q)
                refine wq_aload_n (pc := 118) dD_move_118 rfl rfl ?_
                refine wq_ldc (pc := 119) (z := (-1000001)) dD_move_119 kO_D_69 (by decide) ?_
                refine wq_callV (d' := 2) (pc := 121) (as := [vI (-1000001)]) (rest := []) (lo' := [iR 0, iI ((-1000001)), none]) dD_move_121 mO_D_finding lV_D_70 sh_0 (by decide) cl_10 rfl rfl rfl rfl rfl rfl ?_
                refine sp_D_finding (k := 1) (by decide) (by decide) (by decide) hS ?_
                show Wq 3 0 0 mD_move 124 [iR 0, iI 2, iI x2, iI 3, iI x4, iI x5, iR 76, iR 78] [vI (-1000001)] (sI M 69 1 (wr (gI M 69 1 + 1))) _
                refine wq_ireturn (pc := 124) dD_move_124 trivial ?_
                exact H
          · have H := H.2 c5
            refine wq_aload_n (pc := 73) dD_move_73 rfl rfl ?_
            refine wq_ldc (pc := 74) (z := (-1000005)) dD_move_74 kO_D_98 (by decide) ?_
            refine wq_callV (d' := 2) (pc := 76) (as := [vI (-1000005)]) (rest := []) (lo' := [iR 0, iI ((-1000005)), none]) dD_move_76 mO_D_finding lV_D_70 sh_0 (by decide) cl_10 rfl rfl rfl rfl rfl rfl ?_
            refine sp_D_finding (k := 5) (by decide) (by decide) (by decide) hS ?_
            show Wq 3 0 0 mD_move 79 [iR 0, iI 2, iI x2, iI 3, iI x4, iI x5, iR 76, iR 78] [vI (-1000005)] (sI M 69 5 (wr (gI M 69 5 + 1))) _
            refine wq_ireturn (pc := 79) dD_move_79 trivial ?_
            exact H
        · have H := H.2 c4
          refine wq_aload_n (pc := 53) dD_move_53 rfl rfl ?_
          refine wq_ldc (pc := 54) (z := (-1000002)) dD_move_54 kO_D_125 (by decide) ?_
          refine wq_callV (d' := 2) (pc := 56) (as := [vI (-1000002)]) (rest := []) (lo' := [iR 0, iI ((-1000002)), none]) dD_move_56 mO_D_finding lV_D_70 sh_0 (by decide) cl_10 rfl rfl rfl rfl rfl rfl ?_
          refine sp_D_finding (k := 2) (by decide) (by decide) (by decide) hS ?_
          show Wq 3 0 0 mD_move 59 [iR 0, iI 2, iI x2, iI 3, iI x4, iI x5, iR 76, iR 78] [vI (-1000002)] (sI M 69 2 (wr (gI M 69 2 + 1))) _
          refine wq_ireturn (pc := 59) dD_move_59 trivial ?_
          exact H
    · have H := H.2 c2
      show Wq 3 0 0 mD_move 11 [iR 0, iI 2, iI x2, iI 3, iI x4, iI x5, none, none] [vI 0] M _
      refine wq_if_ne (pc := 11) (tgt := 21) dD_move_11 (by decide) (fun q => absurd q (by decide)) (fun _ => ?_)
      refine wq_aload_n (pc := 14) dD_move_14 rfl rfl ?_
      refine wq_ldc (pc := 15) (z := (-1000001)) dD_move_15 kO_D_69 (by decide) ?_
      refine wq_callV (d' := 2) (pc := 17) (as := [vI (-1000001)]) (rest := []) (lo' := [iR 0, iI ((-1000001)), none]) dD_move_17 mO_D_finding lV_D_70 sh_0 (by decide) cl_10 rfl rfl rfl rfl rfl rfl ?_
      refine sp_D_finding (k := 1) (by decide) (by decide) (by decide) hS ?_
      show Wq 3 0 0 mD_move 20 [iR 0, iI 2, iI x2, iI 3, iI x4, iI x5, none, none] [vI (-1000001)] (sI M 69 1 (wr (gI M 69 1 + 1))) _
      refine wq_ireturn (pc := 20) dD_move_20 trivial ?_
      exact H
  · have H := H.2 c1
    show Wq 3 0 0 mD_move 4 [iR 0, iI 2, iI x2, iI 3, iI x4, iI x5, none, none] [vI 0] M _
    refine wq_if_eq (pc := 4) (tgt := 14) dD_move_4 (by decide) (fun _ => ?_) (fun q => absurd (by decide) q)
    refine wq_aload_n (pc := 14) dD_move_14 rfl rfl ?_
    refine wq_ldc (pc := 15) (z := (-1000001)) dD_move_15 kO_D_69 (by decide) ?_
    refine wq_callV (d' := 2) (pc := 17) (as := [vI (-1000001)]) (rest := []) (lo' := [iR 0, iI ((-1000001)), none]) dD_move_17 mO_D_finding lV_D_70 sh_0 (by decide) cl_10 rfl rfl rfl rfl rfl rfl ?_
    refine sp_D_finding (k := 1) (by decide) (by decide) (by decide) hS ?_
    show Wq 3 0 0 mD_move 20 [iR 0, iI 2, iI x2, iI 3, iI x4, iI x5, none, none] [vI (-1000001)] (sI M 69 1 (wr (gI M 69 1 + 1))) _
    refine wq_ireturn (pc := 20) dD_move_20 trivial ?_
    exact H
set_option maxRecDepth 20000 in
theorem B_S_renew_s2_0 {x1 x2 : Int} {M : Mm} {Q : Mm → Option Mv → Prop} (H : Wq 1 0 0 mS_renew 12 [iR 76, iI x1, iI x2, iI 0] [] (sI (sI M 76 1 x1) 76 2 x2) Q) : Wq 1 0 0 mS_renew 0 [iR 76, iI x1, iI x2, none] [] M Q := by
  refine wq_aload_n (pc := 0) dS_renew_0 rfl rfl ?_
  refine wq_iload_n (pc := 1) dS_renew_1 rfl rfl ?_
  refine wq_putI (pc := 2) (z := 1) dS_renew_2 fW_S_15 sh_76 rfl rfl ?_
  refine wq_aload_n (pc := 5) dS_renew_5 rfl rfl ?_
  refine wq_iload_n (pc := 6) dS_renew_6 rfl rfl ?_
  refine wq_putI (pc := 7) (z := 2) dS_renew_7 fW_S_19 sh_76 rfl rfl ?_
  refine wq_iconst (pc := 10) dS_renew_10 rfl ?_
  refine wq_istore_n (pc := 11) (lo' := [iR 76, iI x1, iI x2, iI 0]) dS_renew_11 rfl rfl rfl ?_
  exact H

set_option maxRecDepth 20000 in
theorem B_S_renew_s2_12 {x1 x2 x3 : Int} {M : Mm} {Q : Mm → Option Mv → Prop} (hS : RefOK M) (H : ((24 ≤ x3 → Q M none) ∧ (¬ 24 ≤ x3 → (((0 ≤ x3 ∧ x3 < 24) ∧ (-2147483648 ≤ x3 + 1 ∧ x3 + 1 < 2147483648)) ∧ Wq 1 0 0 mS_renew 12 [iR 76, iI x1, iI x2, iI (x3 + 1)] [] (sI M 77 x3 0) Q)))) : Wq 1 0 0 mS_renew 12 [iR 76, iI x1, iI x2, iI x3] [] M Q := by
  refine wq_iload_n (pc := 12) dS_renew_12 rfl rfl ?_
  refine wq_bipush (pc := 13) dS_renew_13 rfl ?_
  refine wq_icmp_ge (pc := 15) (tgt := 31) dS_renew_15 (by decide) (fun c1 => ?_) (fun c1 => ?_)
  · have H := H.1 c1
    refine wq_return (pc := 31) dS_renew_31 trivial ?_
    exact H
  · have H := H.2 c1
    obtain ⟨⟨s2, s3⟩, H⟩ := H
    refine wq_aload_n (pc := 18) dS_renew_18 rfl rfl ?_
    refine wq_getR (pc := 19) (z := 0) (b := 77) dS_renew_19 fO_S_9 sh_76 rfl rfl (rf_76_0 hS) ?_
    refine wq_iload_n (pc := 22) dS_renew_22 rfl rfl ?_
    refine wq_iconst (pc := 23) dS_renew_23 rfl ?_
    refine wq_iast (pc := 24) dS_renew_24 sh_77 (by decide) s2.1 s2.2 ?_
    refine wq_iinc (pc := 25) (lo' := [iR 76, iI x1, iI x2, iI (x3 + 1)]) dS_renew_25 rfl rfl (by rw [show wr (x3 + 1) = x3 + 1 from (Eq.trans (wr_eq (by omega) (by omega)) (by omega))]; rfl) ?_
    refine wq_goto (pc := 28) (tgt := 12) dS_renew_28 (by decide) ?_
    exact H
set_option maxRecDepth 20000 in
theorem B_S_cut_s2_0 {x1 : Int} {M : Mm} {Q : Mm → Option Mv → Prop} (H : ((¬ gI M 76 1 = 8 → ((¬ gI M 76 1 = 16 → Q M (some (vI x1))) ∧ (gI M 76 1 = 16 → Q M (some (vI (bS x1)))))) ∧ (gI M 76 1 = 8 → Q M (some (vI (bB x1)))))) : Wq 1 0 0 mS_cut 0 [iR 76, iI x1] [] M Q := by
  refine wq_aload_n (pc := 0) dS_cut_0 rfl rfl ?_
  refine wq_getI (pc := 1) (z := 1) dS_cut_1 fO_S_15 sh_76 rfl rfl ?_
  refine wq_bipush (pc := 4) dS_cut_4 rfl ?_
  refine wq_icmp_ne (pc := 6) (tgt := 12) dS_cut_6 (by decide) (fun c1 => ?_) (fun c1 => ?_)
  · have H := H.1 c1
    refine wq_aload_n (pc := 12) dS_cut_12 rfl rfl ?_
    refine wq_getI (pc := 13) (z := 1) dS_cut_13 fO_S_15 sh_76 rfl rfl ?_
    refine wq_bipush (pc := 16) dS_cut_16 rfl ?_
    refine wq_icmp_ne (pc := 18) (tgt := 26) dS_cut_18 (by decide) (fun c2 => ?_) (fun c2 => ?_)
    · have H := H.1 c2
      refine wq_iload_n (pc := 26) dS_cut_26 rfl rfl ?_
      refine wq_ireturn (pc := 27) dS_cut_27 trivial ?_
      exact H
    · have H := H.2 c2
      refine wq_iload_n (pc := 21) dS_cut_21 rfl rfl ?_
      refine wq_i2s (pc := 22) dS_cut_22 ?_
      refine wq_goto (pc := 23) (tgt := 27) dS_cut_23 (by decide) ?_
      refine wq_ireturn (pc := 27) dS_cut_27 trivial ?_
      exact H
  · have H := H.2 c1
    refine wq_iload_n (pc := 9) dS_cut_9 rfl rfl ?_
    refine wq_i2b (pc := 10) dS_cut_10 ?_
    refine wq_ireturn (pc := 11) dS_cut_11 trivial ?_
    exact H
set_option maxRecDepth 20000 in
theorem B_D_sheet_s3_0 {x2 x3 : Int} {M : Mm} {Q : Mm → Option Mv → Prop} (hS : RefOK M) (H : ((0 ≤ (3 : Int) ∧ (3 : Int) ≤ 3 → ((x2 = 0 → ((x2 = 0 → ((x2 = 0 → ((¬ x2 = 0 → Wq 1 0 0 mS_renew 0 [iR 78, iI x2, iI x3, none] [] M (fun M' v => Wq 3 0 0 mD_sheet 87 [iR 0, iI 3, iI x2, iI x3] (v.toList ++ []) M' Q)) ∧ (x2 = 0 → Wq 1 0 0 mS_renew 0 [iR 78, iI x2, iI 0, none] [] M (fun M' v => Wq 3 0 0 mD_sheet 87 [iR 0, iI 3, iI x2, iI x3] (v.toList ++ []) M' Q)))) ∧ (¬ x2 = 0 → ((x3 ≤ 24 → ((¬ x2 = 0 → Wq 1 0 0 mS_renew 0 [iR 78, iI x2, iI x3, none] [] M (fun M' v => Wq 3 0 0 mD_sheet 87 [iR 0, iI 3, iI x2, iI x3] (v.toList ++ []) M' Q)) ∧ (x2 = 0 → Wq 1 0 0 mS_renew 0 [iR 78, iI x2, iI 0, none] [] M (fun M' v => Wq 3 0 0 mD_sheet 87 [iR 0, iI 3, iI x2, iI x3] (v.toList ++ []) M' Q)))) ∧ (¬ x3 ≤ 24 → Q (sI M 69 1 (wr (gI M 69 1 + 1))) (some (vI (-1000001)))))))) ∧ (¬ x2 = 0 → ((0 ≤ x3 → ((x2 = 0 → ((¬ x2 = 0 → Wq 1 0 0 mS_renew 0 [iR 78, iI x2, iI x3, none] [] M (fun M' v => Wq 3 0 0 mD_sheet 87 [iR 0, iI 3, iI x2, iI x3] (v.toList ++ []) M' Q)) ∧ (x2 = 0 → Wq 1 0 0 mS_renew 0 [iR 78, iI x2, iI 0, none] [] M (fun M' v => Wq 3 0 0 mD_sheet 87 [iR 0, iI 3, iI x2, iI x3] (v.toList ++ []) M' Q)))) ∧ (¬ x2 = 0 → ((x3 ≤ 24 → ((¬ x2 = 0 → Wq 1 0 0 mS_renew 0 [iR 78, iI x2, iI x3, none] [] M (fun M' v => Wq 3 0 0 mD_sheet 87 [iR 0, iI 3, iI x2, iI x3] (v.toList ++ []) M' Q)) ∧ (x2 = 0 → Wq 1 0 0 mS_renew 0 [iR 78, iI x2, iI 0, none] [] M (fun M' v => Wq 3 0 0 mD_sheet 87 [iR 0, iI 3, iI x2, iI x3] (v.toList ++ []) M' Q)))) ∧ (¬ x3 ≤ 24 → Q (sI M 69 1 (wr (gI M 69 1 + 1))) (some (vI (-1000001)))))))) ∧ (¬ 0 ≤ x3 → Q (sI M 69 3 (wr (gI M 69 3 + 1))) (some (vI (-1000003)))))))) ∧ (¬ x2 = 0 → ((x2 = 8 → ((x2 = 0 → ((x2 = 0 → ((¬ x2 = 0 → Wq 1 0 0 mS_renew 0 [iR 78, iI x2, iI x3, none] [] M (fun M' v => Wq 3 0 0 mD_sheet 87 [iR 0, iI 3, iI x2, iI x3] (v.toList ++ []) M' Q)) ∧ (x2 = 0 → Wq 1 0 0 mS_renew 0 [iR 78, iI x2, iI 0, none] [] M (fun M' v => Wq 3 0 0 mD_sheet 87 [iR 0, iI 3, iI x2, iI x3] (v.toList ++ []) M' Q)))) ∧ (¬ x2 = 0 → ((x3 ≤ 24 → ((¬ x2 = 0 → Wq 1 0 0 mS_renew 0 [iR 78, iI x2, iI x3, none] [] M (fun M' v => Wq 3 0 0 mD_sheet 87 [iR 0, iI 3, iI x2, iI x3] (v.toList ++ []) M' Q)) ∧ (x2 = 0 → Wq 1 0 0 mS_renew 0 [iR 78, iI x2, iI 0, none] [] M (fun M' v => Wq 3 0 0 mD_sheet 87 [iR 0, iI 3, iI x2, iI x3] (v.toList ++ []) M' Q)))) ∧ (¬ x3 ≤ 24 → Q (sI M 69 1 (wr (gI M 69 1 + 1))) (some (vI (-1000001)))))))) ∧ (¬ x2 = 0 → ((0 ≤ x3 → ((x2 = 0 → ((¬ x2 = 0 → Wq 1 0 0 mS_renew 0 [iR 78, iI x2, iI x3, none] [] M (fun M' v => Wq 3 0 0 mD_sheet 87 [iR 0, iI 3, iI x2, iI x3] (v.toList ++ []) M' Q)) ∧ (x2 = 0 → Wq 1 0 0 mS_renew 0 [iR 78, iI x2, iI 0, none] [] M (fun M' v => Wq 3 0 0 mD_sheet 87 [iR 0, iI 3, iI x2, iI x3] (v.toList ++ []) M' Q)))) ∧ (¬ x2 = 0 → ((x3 ≤ 24 → ((¬ x2 = 0 → Wq 1 0 0 mS_renew 0 [iR 78, iI x2, iI x3, none] [] M (fun M' v => Wq 3 0 0 mD_sheet 87 [iR 0, iI 3, iI x2, iI x3] (v.toList ++ []) M' Q)) ∧ (x2 = 0 → Wq 1 0 0 mS_renew 0 [iR 78, iI x2, iI 0, none] [] M (fun M' v => Wq 3 0 0 mD_sheet 87 [iR 0, iI 3, iI x2, iI x3] (v.toList ++ []) M' Q)))) ∧ (¬ x3 ≤ 24 → Q (sI M 69 1 (wr (gI M 69 1 + 1))) (some (vI (-1000001)))))))) ∧ (¬ 0 ≤ x3 → Q (sI M 69 3 (wr (gI M 69 3 + 1))) (some (vI (-1000003)))))))) ∧ (¬ x2 = 8 → ((x2 = 16 → ((x2 = 0 → ((x2 = 0 → ((¬ x2 = 0 → Wq 1 0 0 mS_renew 0 [iR 78, iI x2, iI x3, none] [] M (fun M' v => Wq 3 0 0 mD_sheet 87 [iR 0, iI 3, iI x2, iI x3] (v.toList ++ []) M' Q)) ∧ (x2 = 0 → Wq 1 0 0 mS_renew 0 [iR 78, iI x2, iI 0, none] [] M (fun M' v => Wq 3 0 0 mD_sheet 87 [iR 0, iI 3, iI x2, iI x3] (v.toList ++ []) M' Q)))) ∧ (¬ x2 = 0 → ((x3 ≤ 24 → ((¬ x2 = 0 → Wq 1 0 0 mS_renew 0 [iR 78, iI x2, iI x3, none] [] M (fun M' v => Wq 3 0 0 mD_sheet 87 [iR 0, iI 3, iI x2, iI x3] (v.toList ++ []) M' Q)) ∧ (x2 = 0 → Wq 1 0 0 mS_renew 0 [iR 78, iI x2, iI 0, none] [] M (fun M' v => Wq 3 0 0 mD_sheet 87 [iR 0, iI 3, iI x2, iI x3] (v.toList ++ []) M' Q)))) ∧ (¬ x3 ≤ 24 → Q (sI M 69 1 (wr (gI M 69 1 + 1))) (some (vI (-1000001)))))))) ∧ (¬ x2 = 0 → ((0 ≤ x3 → ((x2 = 0 → ((¬ x2 = 0 → Wq 1 0 0 mS_renew 0 [iR 78, iI x2, iI x3, none] [] M (fun M' v => Wq 3 0 0 mD_sheet 87 [iR 0, iI 3, iI x2, iI x3] (v.toList ++ []) M' Q)) ∧ (x2 = 0 → Wq 1 0 0 mS_renew 0 [iR 78, iI x2, iI 0, none] [] M (fun M' v => Wq 3 0 0 mD_sheet 87 [iR 0, iI 3, iI x2, iI x3] (v.toList ++ []) M' Q)))) ∧ (¬ x2 = 0 → ((x3 ≤ 24 → ((¬ x2 = 0 → Wq 1 0 0 mS_renew 0 [iR 78, iI x2, iI x3, none] [] M (fun M' v => Wq 3 0 0 mD_sheet 87 [iR 0, iI 3, iI x2, iI x3] (v.toList ++ []) M' Q)) ∧ (x2 = 0 → Wq 1 0 0 mS_renew 0 [iR 78, iI x2, iI 0, none] [] M (fun M' v => Wq 3 0 0 mD_sheet 87 [iR 0, iI 3, iI x2, iI x3] (v.toList ++ []) M' Q)))) ∧ (¬ x3 ≤ 24 → Q (sI M 69 1 (wr (gI M 69 1 + 1))) (some (vI (-1000001)))))))) ∧ (¬ 0 ≤ x3 → Q (sI M 69 3 (wr (gI M 69 3 + 1))) (some (vI (-1000003)))))))) ∧ (¬ x2 = 16 → ((x2 = 32 → ((x2 = 0 → ((x2 = 0 → ((¬ x2 = 0 → Wq 1 0 0 mS_renew 0 [iR 78, iI x2, iI x3, none] [] M (fun M' v => Wq 3 0 0 mD_sheet 87 [iR 0, iI 3, iI x2, iI x3] (v.toList ++ []) M' Q)) ∧ (x2 = 0 → Wq 1 0 0 mS_renew 0 [iR 78, iI x2, iI 0, none] [] M (fun M' v => Wq 3 0 0 mD_sheet 87 [iR 0, iI 3, iI x2, iI x3] (v.toList ++ []) M' Q)))) ∧ (¬ x2 = 0 → ((x3 ≤ 24 → ((¬ x2 = 0 → Wq 1 0 0 mS_renew 0 [iR 78, iI x2, iI x3, none] [] M (fun M' v => Wq 3 0 0 mD_sheet 87 [iR 0, iI 3, iI x2, iI x3] (v.toList ++ []) M' Q)) ∧ (x2 = 0 → Wq 1 0 0 mS_renew 0 [iR 78, iI x2, iI 0, none] [] M (fun M' v => Wq 3 0 0 mD_sheet 87 [iR 0, iI 3, iI x2, iI x3] (v.toList ++ []) M' Q)))) ∧ (¬ x3 ≤ 24 → Q (sI M 69 1 (wr (gI M 69 1 + 1))) (some (vI (-1000001)))))))) ∧ (¬ x2 = 0 → ((0 ≤ x3 → ((x2 = 0 → ((¬ x2 = 0 → Wq 1 0 0 mS_renew 0 [iR 78, iI x2, iI x3, none] [] M (fun M' v => Wq 3 0 0 mD_sheet 87 [iR 0, iI 3, iI x2, iI x3] (v.toList ++ []) M' Q)) ∧ (x2 = 0 → Wq 1 0 0 mS_renew 0 [iR 78, iI x2, iI 0, none] [] M (fun M' v => Wq 3 0 0 mD_sheet 87 [iR 0, iI 3, iI x2, iI x3] (v.toList ++ []) M' Q)))) ∧ (¬ x2 = 0 → ((x3 ≤ 24 → ((¬ x2 = 0 → Wq 1 0 0 mS_renew 0 [iR 78, iI x2, iI x3, none] [] M (fun M' v => Wq 3 0 0 mD_sheet 87 [iR 0, iI 3, iI x2, iI x3] (v.toList ++ []) M' Q)) ∧ (x2 = 0 → Wq 1 0 0 mS_renew 0 [iR 78, iI x2, iI 0, none] [] M (fun M' v => Wq 3 0 0 mD_sheet 87 [iR 0, iI 3, iI x2, iI x3] (v.toList ++ []) M' Q)))) ∧ (¬ x3 ≤ 24 → Q (sI M 69 1 (wr (gI M 69 1 + 1))) (some (vI (-1000001)))))))) ∧ (¬ 0 ≤ x3 → Q (sI M 69 3 (wr (gI M 69 3 + 1))) (some (vI (-1000003)))))))) ∧ (¬ x2 = 32 → Q (sI M 69 1 (wr (gI M 69 1 + 1))) (some (vI (-1000001)))))))))))) ∧ (¬ (0 ≤ (3 : Int) ∧ (3 : Int) ≤ 3) → Q (sI M 69 1 (wr (gI M 69 1 + 1))) (some (vI (-1000001)))))) : Wq 3 0 0 mD_sheet 0 [iR 0, iI 3, iI x2, iI x3] [] M Q := by
  refine wq_iload_n (pc := 0) dD_sheet_0 rfl rfl ?_
  refine wq_callS (d' := 2) (pc := 1) (as := [vI 3]) (rest := []) (lo' := [iI 3]) dD_sheet_1 mO_D_isSheet lS_D_284 rfl rfl rfl rfl rfl rfl ?_
  refine sp_D_isSheet (fun c1 => ?_) (fun c1 => ?_)
  · have H := H.1 c1
    show Wq 3 0 0 mD_sheet 4 [iR 0, iI 3, iI x2, iI x3] [vI 1] M _
    refine wq_if_eq (pc := 4) (tgt := 29) dD_sheet_4 (by decide) (fun q => absurd q (by decide)) (fun _ => ?_)
    refine wq_iload_n (pc := 7) dD_sheet_7 rfl rfl ?_
    refine wq_if_eq (pc := 8) (tgt := 36) dD_sheet_8 (by decide) (fun c2 => ?_) (fun c2 => ?_)
    · have H := H.1 c2
      refine wq_iload_n (pc := 36) dD_sheet_36 rfl rfl ?_
      refine wq_if_eq (pc := 37) (tgt := 51) dD_sheet_37 (by decide) (fun c3 => ?_) (fun c3 => ?_)
      · have H := H.1 c3
        refine wq_iload_n (pc := 51) dD_sheet_51 rfl rfl ?_
        refine wq_if_eq (pc := 52) (tgt := 68) dD_sheet_52 (by decide) (fun c4 => ?_) (fun c4 => ?_)
        · have H := H.1 c4
          refine wq_aload_n (pc := 68) dD_sheet_68 rfl rfl ?_
          refine wq_getR (pc := 69) (z := 5) (b := 68) dD_sheet_69 fO_D_42 sh_0 rfl rfl (rf_0_5 hS) ?_
          refine wq_iload_n (pc := 72) dD_sheet_72 rfl rfl ?_
          refine wq_aald (pc := 73) (b := 78) dD_sheet_73 sh_68 (by decide) (by decide) (rf_68_3 hS) ?_
          refine wq_iload_n (pc := 74) dD_sheet_74 rfl rfl ?_
          refine wq_iload_n (pc := 75) dD_sheet_75 rfl rfl ?_
          refine wq_if_ne (pc := 76) (tgt := 83) dD_sheet_76 (by decide) (fun c5 => ?_) (fun c5 => ?_)
          · have H := H.1 c5
            refine wq_iload_n (pc := 83) dD_sheet_83 rfl rfl ?_
            refine wq_callV (d' := 1) (pc := 84) (as := [vI x2, vI x3]) (rest := []) (lo' := [iR 78, iI x2, iI x3, none]) dD_sheet_84 mO_S_renew lV_D_316 sh_78 (by decide) cl_6 rfl rfl rfl rfl rfl rfl ?_
            exact H
          · have H := H.2 c5
            refine wq_iconst (pc := 79) dD_sheet_79 rfl ?_
            refine wq_goto (pc := 80) (tgt := 84) dD_sheet_80 (by decide) ?_
            refine wq_callV (d' := 1) (pc := 84) (as := [vI x2, vI 0]) (rest := []) (lo' := [iR 78, iI x2, iI 0, none]) dD_sheet_84 mO_S_renew lV_D_316 sh_78 (by decide) cl_6 rfl rfl rfl rfl rfl rfl ?_
            exact H
        · have H := H.2 c4
          refine wq_iload_n (pc := 55) dD_sheet_55 rfl rfl ?_
          refine wq_bipush (pc := 56) dD_sheet_56 rfl ?_
          refine wq_icmp_le (pc := 58) (tgt := 68) dD_sheet_58 (by decide) (fun c6 => ?_) (fun c6 => ?_)
          · have H := H.1 c6
            refine wq_aload_n (pc := 68) dD_sheet_68 rfl rfl ?_
            refine wq_getR (pc := 69) (z := 5) (b := 68) dD_sheet_69 fO_D_42 sh_0 rfl rfl (rf_0_5 hS) ?_
            refine wq_iload_n (pc := 72) dD_sheet_72 rfl rfl ?_
            refine wq_aald (pc := 73) (b := 78) dD_sheet_73 sh_68 (by decide) (by decide) (rf_68_3 hS) ?_
            refine wq_iload_n (pc := 74) dD_sheet_74 rfl rfl ?_
            refine wq_iload_n (pc := 75) dD_sheet_75 rfl rfl ?_
            refine wq_if_ne (pc := 76) (tgt := 83) dD_sheet_76 (by decide) (fun c7 => ?_) (fun c7 => ?_)
            · have H := H.1 c7
              refine wq_iload_n (pc := 83) dD_sheet_83 rfl rfl ?_
              refine wq_callV (d' := 1) (pc := 84) (as := [vI x2, vI x3]) (rest := []) (lo' := [iR 78, iI x2, iI x3, none]) dD_sheet_84 mO_S_renew lV_D_316 sh_78 (by decide) cl_6 rfl rfl rfl rfl rfl rfl ?_
              exact H
            · have H := H.2 c7
              refine wq_iconst (pc := 79) dD_sheet_79 rfl ?_
              refine wq_goto (pc := 80) (tgt := 84) dD_sheet_80 (by decide) ?_
              refine wq_callV (d' := 1) (pc := 84) (as := [vI x2, vI 0]) (rest := []) (lo' := [iR 78, iI x2, iI 0, none]) dD_sheet_84 mO_S_renew lV_D_316 sh_78 (by decide) cl_6 rfl rfl rfl rfl rfl rfl ?_
              exact H
          · have H := H.2 c6
            refine wq_aload_n (pc := 61) dD_sheet_61 rfl rfl ?_
            refine wq_ldc (pc := 62) (z := (-1000001)) dD_sheet_62 kO_D_69 (by decide) ?_
            refine wq_callV (d' := 2) (pc := 64) (as := [vI (-1000001)]) (rest := []) (lo' := [iR 0, iI ((-1000001)), none]) dD_sheet_64 mO_D_finding lV_D_70 sh_0 (by decide) cl_10 rfl rfl rfl rfl rfl rfl ?_
            refine sp_D_finding (k := 1) (by decide) (by decide) (by decide) hS ?_
            show Wq 3 0 0 mD_sheet 67 [iR 0, iI 3, iI x2, iI x3] [vI (-1000001)] (sI M 69 1 (wr (gI M 69 1 + 1))) _
            refine wq_ireturn (pc := 67) dD_sheet_67 trivial ?_
            exact H
      · have H := H.2 c3
        refine wq_iload_n (pc := 40) dD_sheet_40 rfl rfl ?_
        refine wq_if_ge (pc := 41) (tgt := 51) dD_sheet_41 (by decide) (fun c8 => ?_) (fun c8 => ?_)
        · have H := H.1 c8
          refine wq_iload_n (pc := 51) dD_sheet_51 rfl rfl ?_
          refine wq_if_eq (pc := 52) (tgt := 68) dD_sheet_52 (by decide) (fun c9 => ?_) (fun c9 => ?_)
          · have H := H.1 c9
            refine wq_aload_n (pc := 68) dD_sheet_68 rfl rfl ?_
            refine wq_getR (pc := 69) (z := 5) (b := 68) dD_sheet_69 fO_D_42 sh_0 rfl rfl (rf_0_5 hS) ?_
            refine wq_iload_n (pc := 72) dD_sheet_72 rfl rfl ?_
            refine wq_aald (pc := 73) (b := 78) dD_sheet_73 sh_68 (by decide) (by decide) (rf_68_3 hS) ?_
            refine wq_iload_n (pc := 74) dD_sheet_74 rfl rfl ?_
            refine wq_iload_n (pc := 75) dD_sheet_75 rfl rfl ?_
            refine wq_if_ne (pc := 76) (tgt := 83) dD_sheet_76 (by decide) (fun c10 => ?_) (fun c10 => ?_)
            · have H := H.1 c10
              refine wq_iload_n (pc := 83) dD_sheet_83 rfl rfl ?_
              refine wq_callV (d' := 1) (pc := 84) (as := [vI x2, vI x3]) (rest := []) (lo' := [iR 78, iI x2, iI x3, none]) dD_sheet_84 mO_S_renew lV_D_316 sh_78 (by decide) cl_6 rfl rfl rfl rfl rfl rfl ?_
              exact H
            · have H := H.2 c10
              refine wq_iconst (pc := 79) dD_sheet_79 rfl ?_
              refine wq_goto (pc := 80) (tgt := 84) dD_sheet_80 (by decide) ?_
              refine wq_callV (d' := 1) (pc := 84) (as := [vI x2, vI 0]) (rest := []) (lo' := [iR 78, iI x2, iI 0, none]) dD_sheet_84 mO_S_renew lV_D_316 sh_78 (by decide) cl_6 rfl rfl rfl rfl rfl rfl ?_
              exact H
          · have H := H.2 c9
            refine wq_iload_n (pc := 55) dD_sheet_55 rfl rfl ?_
            refine wq_bipush (pc := 56) dD_sheet_56 rfl ?_
            refine wq_icmp_le (pc := 58) (tgt := 68) dD_sheet_58 (by decide) (fun c11 => ?_) (fun c11 => ?_)
            · have H := H.1 c11
              refine wq_aload_n (pc := 68) dD_sheet_68 rfl rfl ?_
              refine wq_getR (pc := 69) (z := 5) (b := 68) dD_sheet_69 fO_D_42 sh_0 rfl rfl (rf_0_5 hS) ?_
              refine wq_iload_n (pc := 72) dD_sheet_72 rfl rfl ?_
              refine wq_aald (pc := 73) (b := 78) dD_sheet_73 sh_68 (by decide) (by decide) (rf_68_3 hS) ?_
              refine wq_iload_n (pc := 74) dD_sheet_74 rfl rfl ?_
              refine wq_iload_n (pc := 75) dD_sheet_75 rfl rfl ?_
              refine wq_if_ne (pc := 76) (tgt := 83) dD_sheet_76 (by decide) (fun c12 => ?_) (fun c12 => ?_)
              · have H := H.1 c12
                refine wq_iload_n (pc := 83) dD_sheet_83 rfl rfl ?_
                refine wq_callV (d' := 1) (pc := 84) (as := [vI x2, vI x3]) (rest := []) (lo' := [iR 78, iI x2, iI x3, none]) dD_sheet_84 mO_S_renew lV_D_316 sh_78 (by decide) cl_6 rfl rfl rfl rfl rfl rfl ?_
                exact H
              · have H := H.2 c12
                refine wq_iconst (pc := 79) dD_sheet_79 rfl ?_
                refine wq_goto (pc := 80) (tgt := 84) dD_sheet_80 (by decide) ?_
                refine wq_callV (d' := 1) (pc := 84) (as := [vI x2, vI 0]) (rest := []) (lo' := [iR 78, iI x2, iI 0, none]) dD_sheet_84 mO_S_renew lV_D_316 sh_78 (by decide) cl_6 rfl rfl rfl rfl rfl rfl ?_
                exact H
            · have H := H.2 c11
              refine wq_aload_n (pc := 61) dD_sheet_61 rfl rfl ?_
              refine wq_ldc (pc := 62) (z := (-1000001)) dD_sheet_62 kO_D_69 (by decide) ?_
              refine wq_callV (d' := 2) (pc := 64) (as := [vI (-1000001)]) (rest := []) (lo' := [iR 0, iI ((-1000001)), none]) dD_sheet_64 mO_D_finding lV_D_70 sh_0 (by decide) cl_10 rfl rfl rfl rfl rfl rfl ?_
              refine sp_D_finding (k := 1) (by decide) (by decide) (by decide) hS ?_
              show Wq 3 0 0 mD_sheet 67 [iR 0, iI 3, iI x2, iI x3] [vI (-1000001)] (sI M 69 1 (wr (gI M 69 1 + 1))) _
              refine wq_ireturn (pc := 67) dD_sheet_67 trivial ?_
              exact H
        · have H := H.2 c8
          refine wq_aload_n (pc := 44) dD_sheet_44 rfl rfl ?_
          refine wq_ldc (pc := 45) (z := (-1000003)) dD_sheet_45 kO_D_111 (by decide) ?_
          refine wq_callV (d' := 2) (pc := 47) (as := [vI (-1000003)]) (rest := []) (lo' := [iR 0, iI ((-1000003)), none]) dD_sheet_47 mO_D_finding lV_D_70 sh_0 (by decide) cl_10 rfl rfl rfl rfl rfl rfl ?_
          refine sp_D_finding (k := 3) (by decide) (by decide) (by decide) hS ?_
          show Wq 3 0 0 mD_sheet 50 [iR 0, iI 3, iI x2, iI x3] [vI (-1000003)] (sI M 69 3 (wr (gI M 69 3 + 1))) _
          refine wq_ireturn (pc := 50) dD_sheet_50 trivial ?_
          exact H
    · have H := H.2 c2
      refine wq_iload_n (pc := 11) dD_sheet_11 rfl rfl ?_
      refine wq_bipush (pc := 12) dD_sheet_12 rfl ?_
      refine wq_icmp_eq (pc := 14) (tgt := 36) dD_sheet_14 (by decide) (fun c13 => ?_) (fun c13 => ?_)
      · have H := H.1 c13
        refine wq_iload_n (pc := 36) dD_sheet_36 rfl rfl ?_
        refine wq_if_eq (pc := 37) (tgt := 51) dD_sheet_37 (by decide) (fun c14 => ?_) (fun c14 => ?_)
        · have H := H.1 c14
          refine wq_iload_n (pc := 51) dD_sheet_51 rfl rfl ?_
          refine wq_if_eq (pc := 52) (tgt := 68) dD_sheet_52 (by decide) (fun c15 => ?_) (fun c15 => ?_)
          · have H := H.1 c15
            refine wq_aload_n (pc := 68) dD_sheet_68 rfl rfl ?_
            refine wq_getR (pc := 69) (z := 5) (b := 68) dD_sheet_69 fO_D_42 sh_0 rfl rfl (rf_0_5 hS) ?_
            refine wq_iload_n (pc := 72) dD_sheet_72 rfl rfl ?_
            refine wq_aald (pc := 73) (b := 78) dD_sheet_73 sh_68 (by decide) (by decide) (rf_68_3 hS) ?_
            refine wq_iload_n (pc := 74) dD_sheet_74 rfl rfl ?_
            refine wq_iload_n (pc := 75) dD_sheet_75 rfl rfl ?_
            refine wq_if_ne (pc := 76) (tgt := 83) dD_sheet_76 (by decide) (fun c16 => ?_) (fun c16 => ?_)
            · have H := H.1 c16
              refine wq_iload_n (pc := 83) dD_sheet_83 rfl rfl ?_
              refine wq_callV (d' := 1) (pc := 84) (as := [vI x2, vI x3]) (rest := []) (lo' := [iR 78, iI x2, iI x3, none]) dD_sheet_84 mO_S_renew lV_D_316 sh_78 (by decide) cl_6 rfl rfl rfl rfl rfl rfl ?_
              exact H
            · have H := H.2 c16
              refine wq_iconst (pc := 79) dD_sheet_79 rfl ?_
              refine wq_goto (pc := 80) (tgt := 84) dD_sheet_80 (by decide) ?_
              refine wq_callV (d' := 1) (pc := 84) (as := [vI x2, vI 0]) (rest := []) (lo' := [iR 78, iI x2, iI 0, none]) dD_sheet_84 mO_S_renew lV_D_316 sh_78 (by decide) cl_6 rfl rfl rfl rfl rfl rfl ?_
              exact H
          · have H := H.2 c15
            refine wq_iload_n (pc := 55) dD_sheet_55 rfl rfl ?_
            refine wq_bipush (pc := 56) dD_sheet_56 rfl ?_
            refine wq_icmp_le (pc := 58) (tgt := 68) dD_sheet_58 (by decide) (fun c17 => ?_) (fun c17 => ?_)
            · have H := H.1 c17
              refine wq_aload_n (pc := 68) dD_sheet_68 rfl rfl ?_
              refine wq_getR (pc := 69) (z := 5) (b := 68) dD_sheet_69 fO_D_42 sh_0 rfl rfl (rf_0_5 hS) ?_
              refine wq_iload_n (pc := 72) dD_sheet_72 rfl rfl ?_
              refine wq_aald (pc := 73) (b := 78) dD_sheet_73 sh_68 (by decide) (by decide) (rf_68_3 hS) ?_
              refine wq_iload_n (pc := 74) dD_sheet_74 rfl rfl ?_
              refine wq_iload_n (pc := 75) dD_sheet_75 rfl rfl ?_
              refine wq_if_ne (pc := 76) (tgt := 83) dD_sheet_76 (by decide) (fun c18 => ?_) (fun c18 => ?_)
              · have H := H.1 c18
                refine wq_iload_n (pc := 83) dD_sheet_83 rfl rfl ?_
                refine wq_callV (d' := 1) (pc := 84) (as := [vI x2, vI x3]) (rest := []) (lo' := [iR 78, iI x2, iI x3, none]) dD_sheet_84 mO_S_renew lV_D_316 sh_78 (by decide) cl_6 rfl rfl rfl rfl rfl rfl ?_
                exact H
              · have H := H.2 c18
                refine wq_iconst (pc := 79) dD_sheet_79 rfl ?_
                refine wq_goto (pc := 80) (tgt := 84) dD_sheet_80 (by decide) ?_
                refine wq_callV (d' := 1) (pc := 84) (as := [vI x2, vI 0]) (rest := []) (lo' := [iR 78, iI x2, iI 0, none]) dD_sheet_84 mO_S_renew lV_D_316 sh_78 (by decide) cl_6 rfl rfl rfl rfl rfl rfl ?_
                exact H
            · have H := H.2 c17
              refine wq_aload_n (pc := 61) dD_sheet_61 rfl rfl ?_
              refine wq_ldc (pc := 62) (z := (-1000001)) dD_sheet_62 kO_D_69 (by decide) ?_
              refine wq_callV (d' := 2) (pc := 64) (as := [vI (-1000001)]) (rest := []) (lo' := [iR 0, iI ((-1000001)), none]) dD_sheet_64 mO_D_finding lV_D_70 sh_0 (by decide) cl_10 rfl rfl rfl rfl rfl rfl ?_
              refine sp_D_finding (k := 1) (by decide) (by decide) (by decide) hS ?_
              show Wq 3 0 0 mD_sheet 67 [iR 0, iI 3, iI x2, iI x3] [vI (-1000001)] (sI M 69 1 (wr (gI M 69 1 + 1))) _
              refine wq_ireturn (pc := 67) dD_sheet_67 trivial ?_
              exact H
        · have H := H.2 c14
          refine wq_iload_n (pc := 40) dD_sheet_40 rfl rfl ?_
          refine wq_if_ge (pc := 41) (tgt := 51) dD_sheet_41 (by decide) (fun c19 => ?_) (fun c19 => ?_)
          · have H := H.1 c19
            refine wq_iload_n (pc := 51) dD_sheet_51 rfl rfl ?_
            refine wq_if_eq (pc := 52) (tgt := 68) dD_sheet_52 (by decide) (fun c20 => ?_) (fun c20 => ?_)
            · have H := H.1 c20
              refine wq_aload_n (pc := 68) dD_sheet_68 rfl rfl ?_
              refine wq_getR (pc := 69) (z := 5) (b := 68) dD_sheet_69 fO_D_42 sh_0 rfl rfl (rf_0_5 hS) ?_
              refine wq_iload_n (pc := 72) dD_sheet_72 rfl rfl ?_
              refine wq_aald (pc := 73) (b := 78) dD_sheet_73 sh_68 (by decide) (by decide) (rf_68_3 hS) ?_
              refine wq_iload_n (pc := 74) dD_sheet_74 rfl rfl ?_
              refine wq_iload_n (pc := 75) dD_sheet_75 rfl rfl ?_
              refine wq_if_ne (pc := 76) (tgt := 83) dD_sheet_76 (by decide) (fun c21 => ?_) (fun c21 => ?_)
              · have H := H.1 c21
                refine wq_iload_n (pc := 83) dD_sheet_83 rfl rfl ?_
                refine wq_callV (d' := 1) (pc := 84) (as := [vI x2, vI x3]) (rest := []) (lo' := [iR 78, iI x2, iI x3, none]) dD_sheet_84 mO_S_renew lV_D_316 sh_78 (by decide) cl_6 rfl rfl rfl rfl rfl rfl ?_
                exact H
              · have H := H.2 c21
                refine wq_iconst (pc := 79) dD_sheet_79 rfl ?_
                refine wq_goto (pc := 80) (tgt := 84) dD_sheet_80 (by decide) ?_
                refine wq_callV (d' := 1) (pc := 84) (as := [vI x2, vI 0]) (rest := []) (lo' := [iR 78, iI x2, iI 0, none]) dD_sheet_84 mO_S_renew lV_D_316 sh_78 (by decide) cl_6 rfl rfl rfl rfl rfl rfl ?_
                exact H
            · have H := H.2 c20
              refine wq_iload_n (pc := 55) dD_sheet_55 rfl rfl ?_
              refine wq_bipush (pc := 56) dD_sheet_56 rfl ?_
              refine wq_icmp_le (pc := 58) (tgt := 68) dD_sheet_58 (by decide) (fun c22 => ?_) (fun c22 => ?_)
              · have H := H.1 c22
                refine wq_aload_n (pc := 68) dD_sheet_68 rfl rfl ?_
                refine wq_getR (pc := 69) (z := 5) (b := 68) dD_sheet_69 fO_D_42 sh_0 rfl rfl (rf_0_5 hS) ?_
                refine wq_iload_n (pc := 72) dD_sheet_72 rfl rfl ?_
                refine wq_aald (pc := 73) (b := 78) dD_sheet_73 sh_68 (by decide) (by decide) (rf_68_3 hS) ?_
                refine wq_iload_n (pc := 74) dD_sheet_74 rfl rfl ?_
                refine wq_iload_n (pc := 75) dD_sheet_75 rfl rfl ?_
                refine wq_if_ne (pc := 76) (tgt := 83) dD_sheet_76 (by decide) (fun c23 => ?_) (fun c23 => ?_)
                · have H := H.1 c23
                  refine wq_iload_n (pc := 83) dD_sheet_83 rfl rfl ?_
                  refine wq_callV (d' := 1) (pc := 84) (as := [vI x2, vI x3]) (rest := []) (lo' := [iR 78, iI x2, iI x3, none]) dD_sheet_84 mO_S_renew lV_D_316 sh_78 (by decide) cl_6 rfl rfl rfl rfl rfl rfl ?_
                  exact H
                · have H := H.2 c23
                  refine wq_iconst (pc := 79) dD_sheet_79 rfl ?_
                  refine wq_goto (pc := 80) (tgt := 84) dD_sheet_80 (by decide) ?_
                  refine wq_callV (d' := 1) (pc := 84) (as := [vI x2, vI 0]) (rest := []) (lo' := [iR 78, iI x2, iI 0, none]) dD_sheet_84 mO_S_renew lV_D_316 sh_78 (by decide) cl_6 rfl rfl rfl rfl rfl rfl ?_
                  exact H
              · have H := H.2 c22
                refine wq_aload_n (pc := 61) dD_sheet_61 rfl rfl ?_
                refine wq_ldc (pc := 62) (z := (-1000001)) dD_sheet_62 kO_D_69 (by decide) ?_
                refine wq_callV (d' := 2) (pc := 64) (as := [vI (-1000001)]) (rest := []) (lo' := [iR 0, iI ((-1000001)), none]) dD_sheet_64 mO_D_finding lV_D_70 sh_0 (by decide) cl_10 rfl rfl rfl rfl rfl rfl ?_
                refine sp_D_finding (k := 1) (by decide) (by decide) (by decide) hS ?_
                show Wq 3 0 0 mD_sheet 67 [iR 0, iI 3, iI x2, iI x3] [vI (-1000001)] (sI M 69 1 (wr (gI M 69 1 + 1))) _
                refine wq_ireturn (pc := 67) dD_sheet_67 trivial ?_
                exact H
          · have H := H.2 c19
            refine wq_aload_n (pc := 44) dD_sheet_44 rfl rfl ?_
            refine wq_ldc (pc := 45) (z := (-1000003)) dD_sheet_45 kO_D_111 (by decide) ?_
            refine wq_callV (d' := 2) (pc := 47) (as := [vI (-1000003)]) (rest := []) (lo' := [iR 0, iI ((-1000003)), none]) dD_sheet_47 mO_D_finding lV_D_70 sh_0 (by decide) cl_10 rfl rfl rfl rfl rfl rfl ?_
            refine sp_D_finding (k := 3) (by decide) (by decide) (by decide) hS ?_
            show Wq 3 0 0 mD_sheet 50 [iR 0, iI 3, iI x2, iI x3] [vI (-1000003)] (sI M 69 3 (wr (gI M 69 3 + 1))) _
            refine wq_ireturn (pc := 50) dD_sheet_50 trivial ?_
            exact H
      · have H := H.2 c13
        refine wq_iload_n (pc := 17) dD_sheet_17 rfl rfl ?_
        refine wq_bipush (pc := 18) dD_sheet_18 rfl ?_
        refine wq_icmp_eq (pc := 20) (tgt := 36) dD_sheet_20 (by decide) (fun c24 => ?_) (fun c24 => ?_)
        · have H := H.1 c24
          refine wq_iload_n (pc := 36) dD_sheet_36 rfl rfl ?_
          refine wq_if_eq (pc := 37) (tgt := 51) dD_sheet_37 (by decide) (fun c25 => ?_) (fun c25 => ?_)
          · have H := H.1 c25
            refine wq_iload_n (pc := 51) dD_sheet_51 rfl rfl ?_
            refine wq_if_eq (pc := 52) (tgt := 68) dD_sheet_52 (by decide) (fun c26 => ?_) (fun c26 => ?_)
            · have H := H.1 c26
              refine wq_aload_n (pc := 68) dD_sheet_68 rfl rfl ?_
              refine wq_getR (pc := 69) (z := 5) (b := 68) dD_sheet_69 fO_D_42 sh_0 rfl rfl (rf_0_5 hS) ?_
              refine wq_iload_n (pc := 72) dD_sheet_72 rfl rfl ?_
              refine wq_aald (pc := 73) (b := 78) dD_sheet_73 sh_68 (by decide) (by decide) (rf_68_3 hS) ?_
              refine wq_iload_n (pc := 74) dD_sheet_74 rfl rfl ?_
              refine wq_iload_n (pc := 75) dD_sheet_75 rfl rfl ?_
              refine wq_if_ne (pc := 76) (tgt := 83) dD_sheet_76 (by decide) (fun c27 => ?_) (fun c27 => ?_)
              · have H := H.1 c27
                refine wq_iload_n (pc := 83) dD_sheet_83 rfl rfl ?_
                refine wq_callV (d' := 1) (pc := 84) (as := [vI x2, vI x3]) (rest := []) (lo' := [iR 78, iI x2, iI x3, none]) dD_sheet_84 mO_S_renew lV_D_316 sh_78 (by decide) cl_6 rfl rfl rfl rfl rfl rfl ?_
                exact H
              · have H := H.2 c27
                refine wq_iconst (pc := 79) dD_sheet_79 rfl ?_
                refine wq_goto (pc := 80) (tgt := 84) dD_sheet_80 (by decide) ?_
                refine wq_callV (d' := 1) (pc := 84) (as := [vI x2, vI 0]) (rest := []) (lo' := [iR 78, iI x2, iI 0, none]) dD_sheet_84 mO_S_renew lV_D_316 sh_78 (by decide) cl_6 rfl rfl rfl rfl rfl rfl ?_
                exact H
            · have H := H.2 c26
              refine wq_iload_n (pc := 55) dD_sheet_55 rfl rfl ?_
              refine wq_bipush (pc := 56) dD_sheet_56 rfl ?_
              refine wq_icmp_le (pc := 58) (tgt := 68) dD_sheet_58 (by decide) (fun c28 => ?_) (fun c28 => ?_)
              · have H := H.1 c28
                refine wq_aload_n (pc := 68) dD_sheet_68 rfl rfl ?_
                refine wq_getR (pc := 69) (z := 5) (b := 68) dD_sheet_69 fO_D_42 sh_0 rfl rfl (rf_0_5 hS) ?_
                refine wq_iload_n (pc := 72) dD_sheet_72 rfl rfl ?_
                refine wq_aald (pc := 73) (b := 78) dD_sheet_73 sh_68 (by decide) (by decide) (rf_68_3 hS) ?_
                refine wq_iload_n (pc := 74) dD_sheet_74 rfl rfl ?_
                refine wq_iload_n (pc := 75) dD_sheet_75 rfl rfl ?_
                refine wq_if_ne (pc := 76) (tgt := 83) dD_sheet_76 (by decide) (fun c29 => ?_) (fun c29 => ?_)
                · have H := H.1 c29
                  refine wq_iload_n (pc := 83) dD_sheet_83 rfl rfl ?_
                  refine wq_callV (d' := 1) (pc := 84) (as := [vI x2, vI x3]) (rest := []) (lo' := [iR 78, iI x2, iI x3, none]) dD_sheet_84 mO_S_renew lV_D_316 sh_78 (by decide) cl_6 rfl rfl rfl rfl rfl rfl ?_
                  exact H
                · have H := H.2 c29
                  refine wq_iconst (pc := 79) dD_sheet_79 rfl ?_
                  refine wq_goto (pc := 80) (tgt := 84) dD_sheet_80 (by decide) ?_
                  refine wq_callV (d' := 1) (pc := 84) (as := [vI x2, vI 0]) (rest := []) (lo' := [iR 78, iI x2, iI 0, none]) dD_sheet_84 mO_S_renew lV_D_316 sh_78 (by decide) cl_6 rfl rfl rfl rfl rfl rfl ?_
                  exact H
              · have H := H.2 c28
                refine wq_aload_n (pc := 61) dD_sheet_61 rfl rfl ?_
                refine wq_ldc (pc := 62) (z := (-1000001)) dD_sheet_62 kO_D_69 (by decide) ?_
                refine wq_callV (d' := 2) (pc := 64) (as := [vI (-1000001)]) (rest := []) (lo' := [iR 0, iI ((-1000001)), none]) dD_sheet_64 mO_D_finding lV_D_70 sh_0 (by decide) cl_10 rfl rfl rfl rfl rfl rfl ?_
                refine sp_D_finding (k := 1) (by decide) (by decide) (by decide) hS ?_
                show Wq 3 0 0 mD_sheet 67 [iR 0, iI 3, iI x2, iI x3] [vI (-1000001)] (sI M 69 1 (wr (gI M 69 1 + 1))) _
                refine wq_ireturn (pc := 67) dD_sheet_67 trivial ?_
                exact H
          · have H := H.2 c25
            refine wq_iload_n (pc := 40) dD_sheet_40 rfl rfl ?_
            refine wq_if_ge (pc := 41) (tgt := 51) dD_sheet_41 (by decide) (fun c30 => ?_) (fun c30 => ?_)
            · have H := H.1 c30
              refine wq_iload_n (pc := 51) dD_sheet_51 rfl rfl ?_
              refine wq_if_eq (pc := 52) (tgt := 68) dD_sheet_52 (by decide) (fun c31 => ?_) (fun c31 => ?_)
              · have H := H.1 c31
                refine wq_aload_n (pc := 68) dD_sheet_68 rfl rfl ?_
                refine wq_getR (pc := 69) (z := 5) (b := 68) dD_sheet_69 fO_D_42 sh_0 rfl rfl (rf_0_5 hS) ?_
                refine wq_iload_n (pc := 72) dD_sheet_72 rfl rfl ?_
                refine wq_aald (pc := 73) (b := 78) dD_sheet_73 sh_68 (by decide) (by decide) (rf_68_3 hS) ?_
                refine wq_iload_n (pc := 74) dD_sheet_74 rfl rfl ?_
                refine wq_iload_n (pc := 75) dD_sheet_75 rfl rfl ?_
                refine wq_if_ne (pc := 76) (tgt := 83) dD_sheet_76 (by decide) (fun c32 => ?_) (fun c32 => ?_)
                · have H := H.1 c32
                  refine wq_iload_n (pc := 83) dD_sheet_83 rfl rfl ?_
                  refine wq_callV (d' := 1) (pc := 84) (as := [vI x2, vI x3]) (rest := []) (lo' := [iR 78, iI x2, iI x3, none]) dD_sheet_84 mO_S_renew lV_D_316 sh_78 (by decide) cl_6 rfl rfl rfl rfl rfl rfl ?_
                  exact H
                · have H := H.2 c32
                  refine wq_iconst (pc := 79) dD_sheet_79 rfl ?_
                  refine wq_goto (pc := 80) (tgt := 84) dD_sheet_80 (by decide) ?_
                  refine wq_callV (d' := 1) (pc := 84) (as := [vI x2, vI 0]) (rest := []) (lo' := [iR 78, iI x2, iI 0, none]) dD_sheet_84 mO_S_renew lV_D_316 sh_78 (by decide) cl_6 rfl rfl rfl rfl rfl rfl ?_
                  exact H
              · have H := H.2 c31
                refine wq_iload_n (pc := 55) dD_sheet_55 rfl rfl ?_
                refine wq_bipush (pc := 56) dD_sheet_56 rfl ?_
                refine wq_icmp_le (pc := 58) (tgt := 68) dD_sheet_58 (by decide) (fun c33 => ?_) (fun c33 => ?_)
                · have H := H.1 c33
                  refine wq_aload_n (pc := 68) dD_sheet_68 rfl rfl ?_
                  refine wq_getR (pc := 69) (z := 5) (b := 68) dD_sheet_69 fO_D_42 sh_0 rfl rfl (rf_0_5 hS) ?_
                  refine wq_iload_n (pc := 72) dD_sheet_72 rfl rfl ?_
                  refine wq_aald (pc := 73) (b := 78) dD_sheet_73 sh_68 (by decide) (by decide) (rf_68_3 hS) ?_
                  refine wq_iload_n (pc := 74) dD_sheet_74 rfl rfl ?_
                  refine wq_iload_n (pc := 75) dD_sheet_75 rfl rfl ?_
                  refine wq_if_ne (pc := 76) (tgt := 83) dD_sheet_76 (by decide) (fun c34 => ?_) (fun c34 => ?_)
                  · have H := H.1 c34
                    refine wq_iload_n (pc := 83) dD_sheet_83 rfl rfl ?_
                    refine wq_callV (d' := 1) (pc := 84) (as := [vI x2, vI x3]) (rest := []) (lo' := [iR 78, iI x2, iI x3, none]) dD_sheet_84 mO_S_renew lV_D_316 sh_78 (by decide) cl_6 rfl rfl rfl rfl rfl rfl ?_
                    exact H
                  · have H := H.2 c34
                    refine wq_iconst (pc := 79) dD_sheet_79 rfl ?_
                    refine wq_goto (pc := 80) (tgt := 84) dD_sheet_80 (by decide) ?_
                    refine wq_callV (d' := 1) (pc := 84) (as := [vI x2, vI 0]) (rest := []) (lo' := [iR 78, iI x2, iI 0, none]) dD_sheet_84 mO_S_renew lV_D_316 sh_78 (by decide) cl_6 rfl rfl rfl rfl rfl rfl ?_
                    exact H
                · have H := H.2 c33
                  refine wq_aload_n (pc := 61) dD_sheet_61 rfl rfl ?_
                  refine wq_ldc (pc := 62) (z := (-1000001)) dD_sheet_62 kO_D_69 (by decide) ?_
                  refine wq_callV (d' := 2) (pc := 64) (as := [vI (-1000001)]) (rest := []) (lo' := [iR 0, iI ((-1000001)), none]) dD_sheet_64 mO_D_finding lV_D_70 sh_0 (by decide) cl_10 rfl rfl rfl rfl rfl rfl ?_
                  refine sp_D_finding (k := 1) (by decide) (by decide) (by decide) hS ?_
                  show Wq 3 0 0 mD_sheet 67 [iR 0, iI 3, iI x2, iI x3] [vI (-1000001)] (sI M 69 1 (wr (gI M 69 1 + 1))) _
                  refine wq_ireturn (pc := 67) dD_sheet_67 trivial ?_
                  exact H
            · have H := H.2 c30
              refine wq_aload_n (pc := 44) dD_sheet_44 rfl rfl ?_
              refine wq_ldc (pc := 45) (z := (-1000003)) dD_sheet_45 kO_D_111 (by decide) ?_
              refine wq_callV (d' := 2) (pc := 47) (as := [vI (-1000003)]) (rest := []) (lo' := [iR 0, iI ((-1000003)), none]) dD_sheet_47 mO_D_finding lV_D_70 sh_0 (by decide) cl_10 rfl rfl rfl rfl rfl rfl ?_
              refine sp_D_finding (k := 3) (by decide) (by decide) (by decide) hS ?_
              show Wq 3 0 0 mD_sheet 50 [iR 0, iI 3, iI x2, iI x3] [vI (-1000003)] (sI M 69 3 (wr (gI M 69 3 + 1))) _
              refine wq_ireturn (pc := 50) dD_sheet_50 trivial ?_
              exact H
        · have H := H.2 c24
          refine wq_iload_n (pc := 23) dD_sheet_23 rfl rfl ?_
          refine wq_bipush (pc := 24) dD_sheet_24 rfl ?_
          refine wq_icmp_eq (pc := 26) (tgt := 36) dD_sheet_26 (by decide) (fun c35 => ?_) (fun c35 => ?_)
          · have H := H.1 c35
            refine wq_iload_n (pc := 36) dD_sheet_36 rfl rfl ?_
            refine wq_if_eq (pc := 37) (tgt := 51) dD_sheet_37 (by decide) (fun c36 => ?_) (fun c36 => ?_)
            · have H := H.1 c36
              refine wq_iload_n (pc := 51) dD_sheet_51 rfl rfl ?_
              refine wq_if_eq (pc := 52) (tgt := 68) dD_sheet_52 (by decide) (fun c37 => ?_) (fun c37 => ?_)
              · have H := H.1 c37
                refine wq_aload_n (pc := 68) dD_sheet_68 rfl rfl ?_
                refine wq_getR (pc := 69) (z := 5) (b := 68) dD_sheet_69 fO_D_42 sh_0 rfl rfl (rf_0_5 hS) ?_
                refine wq_iload_n (pc := 72) dD_sheet_72 rfl rfl ?_
                refine wq_aald (pc := 73) (b := 78) dD_sheet_73 sh_68 (by decide) (by decide) (rf_68_3 hS) ?_
                refine wq_iload_n (pc := 74) dD_sheet_74 rfl rfl ?_
                refine wq_iload_n (pc := 75) dD_sheet_75 rfl rfl ?_
                refine wq_if_ne (pc := 76) (tgt := 83) dD_sheet_76 (by decide) (fun c38 => ?_) (fun c38 => ?_)
                · have H := H.1 c38
                  refine wq_iload_n (pc := 83) dD_sheet_83 rfl rfl ?_
                  refine wq_callV (d' := 1) (pc := 84) (as := [vI x2, vI x3]) (rest := []) (lo' := [iR 78, iI x2, iI x3, none]) dD_sheet_84 mO_S_renew lV_D_316 sh_78 (by decide) cl_6 rfl rfl rfl rfl rfl rfl ?_
                  exact H
                · have H := H.2 c38
                  refine wq_iconst (pc := 79) dD_sheet_79 rfl ?_
                  refine wq_goto (pc := 80) (tgt := 84) dD_sheet_80 (by decide) ?_
                  refine wq_callV (d' := 1) (pc := 84) (as := [vI x2, vI 0]) (rest := []) (lo' := [iR 78, iI x2, iI 0, none]) dD_sheet_84 mO_S_renew lV_D_316 sh_78 (by decide) cl_6 rfl rfl rfl rfl rfl rfl ?_
                  exact H
              · have H := H.2 c37
                refine wq_iload_n (pc := 55) dD_sheet_55 rfl rfl ?_
                refine wq_bipush (pc := 56) dD_sheet_56 rfl ?_
                refine wq_icmp_le (pc := 58) (tgt := 68) dD_sheet_58 (by decide) (fun c39 => ?_) (fun c39 => ?_)
                · have H := H.1 c39
                  refine wq_aload_n (pc := 68) dD_sheet_68 rfl rfl ?_
                  refine wq_getR (pc := 69) (z := 5) (b := 68) dD_sheet_69 fO_D_42 sh_0 rfl rfl (rf_0_5 hS) ?_
                  refine wq_iload_n (pc := 72) dD_sheet_72 rfl rfl ?_
                  refine wq_aald (pc := 73) (b := 78) dD_sheet_73 sh_68 (by decide) (by decide) (rf_68_3 hS) ?_
                  refine wq_iload_n (pc := 74) dD_sheet_74 rfl rfl ?_
                  refine wq_iload_n (pc := 75) dD_sheet_75 rfl rfl ?_
                  refine wq_if_ne (pc := 76) (tgt := 83) dD_sheet_76 (by decide) (fun c40 => ?_) (fun c40 => ?_)
                  · have H := H.1 c40
                    refine wq_iload_n (pc := 83) dD_sheet_83 rfl rfl ?_
                    refine wq_callV (d' := 1) (pc := 84) (as := [vI x2, vI x3]) (rest := []) (lo' := [iR 78, iI x2, iI x3, none]) dD_sheet_84 mO_S_renew lV_D_316 sh_78 (by decide) cl_6 rfl rfl rfl rfl rfl rfl ?_
                    exact H
                  · have H := H.2 c40
                    refine wq_iconst (pc := 79) dD_sheet_79 rfl ?_
                    refine wq_goto (pc := 80) (tgt := 84) dD_sheet_80 (by decide) ?_
                    refine wq_callV (d' := 1) (pc := 84) (as := [vI x2, vI 0]) (rest := []) (lo' := [iR 78, iI x2, iI 0, none]) dD_sheet_84 mO_S_renew lV_D_316 sh_78 (by decide) cl_6 rfl rfl rfl rfl rfl rfl ?_
                    exact H
                · have H := H.2 c39
                  refine wq_aload_n (pc := 61) dD_sheet_61 rfl rfl ?_
                  refine wq_ldc (pc := 62) (z := (-1000001)) dD_sheet_62 kO_D_69 (by decide) ?_
                  refine wq_callV (d' := 2) (pc := 64) (as := [vI (-1000001)]) (rest := []) (lo' := [iR 0, iI ((-1000001)), none]) dD_sheet_64 mO_D_finding lV_D_70 sh_0 (by decide) cl_10 rfl rfl rfl rfl rfl rfl ?_
                  refine sp_D_finding (k := 1) (by decide) (by decide) (by decide) hS ?_
                  show Wq 3 0 0 mD_sheet 67 [iR 0, iI 3, iI x2, iI x3] [vI (-1000001)] (sI M 69 1 (wr (gI M 69 1 + 1))) _
                  refine wq_ireturn (pc := 67) dD_sheet_67 trivial ?_
                  exact H
            · have H := H.2 c36
              refine wq_iload_n (pc := 40) dD_sheet_40 rfl rfl ?_
              refine wq_if_ge (pc := 41) (tgt := 51) dD_sheet_41 (by decide) (fun c41 => ?_) (fun c41 => ?_)
              · have H := H.1 c41
                refine wq_iload_n (pc := 51) dD_sheet_51 rfl rfl ?_
                refine wq_if_eq (pc := 52) (tgt := 68) dD_sheet_52 (by decide) (fun c42 => ?_) (fun c42 => ?_)
                · have H := H.1 c42
                  refine wq_aload_n (pc := 68) dD_sheet_68 rfl rfl ?_
                  refine wq_getR (pc := 69) (z := 5) (b := 68) dD_sheet_69 fO_D_42 sh_0 rfl rfl (rf_0_5 hS) ?_
                  refine wq_iload_n (pc := 72) dD_sheet_72 rfl rfl ?_
                  refine wq_aald (pc := 73) (b := 78) dD_sheet_73 sh_68 (by decide) (by decide) (rf_68_3 hS) ?_
                  refine wq_iload_n (pc := 74) dD_sheet_74 rfl rfl ?_
                  refine wq_iload_n (pc := 75) dD_sheet_75 rfl rfl ?_
                  refine wq_if_ne (pc := 76) (tgt := 83) dD_sheet_76 (by decide) (fun c43 => ?_) (fun c43 => ?_)
                  · have H := H.1 c43
                    refine wq_iload_n (pc := 83) dD_sheet_83 rfl rfl ?_
                    refine wq_callV (d' := 1) (pc := 84) (as := [vI x2, vI x3]) (rest := []) (lo' := [iR 78, iI x2, iI x3, none]) dD_sheet_84 mO_S_renew lV_D_316 sh_78 (by decide) cl_6 rfl rfl rfl rfl rfl rfl ?_
                    exact H
                  · have H := H.2 c43
                    refine wq_iconst (pc := 79) dD_sheet_79 rfl ?_
                    refine wq_goto (pc := 80) (tgt := 84) dD_sheet_80 (by decide) ?_
                    refine wq_callV (d' := 1) (pc := 84) (as := [vI x2, vI 0]) (rest := []) (lo' := [iR 78, iI x2, iI 0, none]) dD_sheet_84 mO_S_renew lV_D_316 sh_78 (by decide) cl_6 rfl rfl rfl rfl rfl rfl ?_
                    exact H
                · have H := H.2 c42
                  refine wq_iload_n (pc := 55) dD_sheet_55 rfl rfl ?_
                  refine wq_bipush (pc := 56) dD_sheet_56 rfl ?_
                  refine wq_icmp_le (pc := 58) (tgt := 68) dD_sheet_58 (by decide) (fun c44 => ?_) (fun c44 => ?_)
                  · have H := H.1 c44
                    refine wq_aload_n (pc := 68) dD_sheet_68 rfl rfl ?_
                    refine wq_getR (pc := 69) (z := 5) (b := 68) dD_sheet_69 fO_D_42 sh_0 rfl rfl (rf_0_5 hS) ?_
                    refine wq_iload_n (pc := 72) dD_sheet_72 rfl rfl ?_
                    refine wq_aald (pc := 73) (b := 78) dD_sheet_73 sh_68 (by decide) (by decide) (rf_68_3 hS) ?_
                    refine wq_iload_n (pc := 74) dD_sheet_74 rfl rfl ?_
                    refine wq_iload_n (pc := 75) dD_sheet_75 rfl rfl ?_
                    refine wq_if_ne (pc := 76) (tgt := 83) dD_sheet_76 (by decide) (fun c45 => ?_) (fun c45 => ?_)
                    · have H := H.1 c45
                      refine wq_iload_n (pc := 83) dD_sheet_83 rfl rfl ?_
                      refine wq_callV (d' := 1) (pc := 84) (as := [vI x2, vI x3]) (rest := []) (lo' := [iR 78, iI x2, iI x3, none]) dD_sheet_84 mO_S_renew lV_D_316 sh_78 (by decide) cl_6 rfl rfl rfl rfl rfl rfl ?_
                      exact H
                    · have H := H.2 c45
                      refine wq_iconst (pc := 79) dD_sheet_79 rfl ?_
                      refine wq_goto (pc := 80) (tgt := 84) dD_sheet_80 (by decide) ?_
                      refine wq_callV (d' := 1) (pc := 84) (as := [vI x2, vI 0]) (rest := []) (lo' := [iR 78, iI x2, iI 0, none]) dD_sheet_84 mO_S_renew lV_D_316 sh_78 (by decide) cl_6 rfl rfl rfl rfl rfl rfl ?_
                      exact H
                  · have H := H.2 c44
                    refine wq_aload_n (pc := 61) dD_sheet_61 rfl rfl ?_
                    refine wq_ldc (pc := 62) (z := (-1000001)) dD_sheet_62 kO_D_69 (by decide) ?_
                    refine wq_callV (d' := 2) (pc := 64) (as := [vI (-1000001)]) (rest := []) (lo' := [iR 0, iI ((-1000001)), none]) dD_sheet_64 mO_D_finding lV_D_70 sh_0 (by decide) cl_10 rfl rfl rfl rfl rfl rfl ?_
                    refine sp_D_finding (k := 1) (by decide) (by decide) (by decide) hS ?_
                    show Wq 3 0 0 mD_sheet 67 [iR 0, iI 3, iI x2, iI x3] [vI (-1000001)] (sI M 69 1 (wr (gI M 69 1 + 1))) _
                    refine wq_ireturn (pc := 67) dD_sheet_67 trivial ?_
                    exact H
              · have H := H.2 c41
                refine wq_aload_n (pc := 44) dD_sheet_44 rfl rfl ?_
                refine wq_ldc (pc := 45) (z := (-1000003)) dD_sheet_45 kO_D_111 (by decide) ?_
                refine wq_callV (d' := 2) (pc := 47) (as := [vI (-1000003)]) (rest := []) (lo' := [iR 0, iI ((-1000003)), none]) dD_sheet_47 mO_D_finding lV_D_70 sh_0 (by decide) cl_10 rfl rfl rfl rfl rfl rfl ?_
                refine sp_D_finding (k := 3) (by decide) (by decide) (by decide) hS ?_
                show Wq 3 0 0 mD_sheet 50 [iR 0, iI 3, iI x2, iI x3] [vI (-1000003)] (sI M 69 3 (wr (gI M 69 3 + 1))) _
                refine wq_ireturn (pc := 50) dD_sheet_50 trivial ?_
                exact H
          · have H := H.2 c35
            refine wq_aload_n (pc := 29) dD_sheet_29 rfl rfl ?_
            refine wq_ldc (pc := 30) (z := (-1000001)) dD_sheet_30 kO_D_69 (by decide) ?_
            refine wq_callV (d' := 2) (pc := 32) (as := [vI (-1000001)]) (rest := []) (lo' := [iR 0, iI ((-1000001)), none]) dD_sheet_32 mO_D_finding lV_D_70 sh_0 (by decide) cl_10 rfl rfl rfl rfl rfl rfl ?_
            refine sp_D_finding (k := 1) (by decide) (by decide) (by decide) hS ?_
            show Wq 3 0 0 mD_sheet 35 [iR 0, iI 3, iI x2, iI x3] [vI (-1000001)] (sI M 69 1 (wr (gI M 69 1 + 1))) _
            refine wq_ireturn (pc := 35) dD_sheet_35 trivial ?_
            exact H
  · have H := H.2 c1
    show Wq 3 0 0 mD_sheet 4 [iR 0, iI 3, iI x2, iI x3] [vI 0] M _
    refine wq_if_eq (pc := 4) (tgt := 29) dD_sheet_4 (by decide) (fun _ => ?_) (fun q => absurd (by decide) q)
    refine wq_aload_n (pc := 29) dD_sheet_29 rfl rfl ?_
    refine wq_ldc (pc := 30) (z := (-1000001)) dD_sheet_30 kO_D_69 (by decide) ?_
    refine wq_callV (d' := 2) (pc := 32) (as := [vI (-1000001)]) (rest := []) (lo' := [iR 0, iI ((-1000001)), none]) dD_sheet_32 mO_D_finding lV_D_70 sh_0 (by decide) cl_10 rfl rfl rfl rfl rfl rfl ?_
    refine sp_D_finding (k := 1) (by decide) (by decide) (by decide) hS ?_
    show Wq 3 0 0 mD_sheet 35 [iR 0, iI 3, iI x2, iI x3] [vI (-1000001)] (sI M 69 1 (wr (gI M 69 1 + 1))) _
    refine wq_ireturn (pc := 35) dD_sheet_35 trivial ?_
    exact H

set_option maxRecDepth 20000 in
theorem B_D_sheet_s3_87 {x2 x3 : Int} {M : Mm} {Q : Mm → Option Mv → Prop} (H : Q M (some (vI 1))) : Wq 3 0 0 mD_sheet 87 [iR 0, iI 3, iI x2, iI x3] [] M Q := by
  refine wq_iconst (pc := 87) dD_sheet_87 rfl ?_
  refine wq_ireturn (pc := 88) dD_sheet_88 trivial ?_
  exact H
set_option maxRecDepth 20000 in
theorem B_D_put_s3_0 {x2 x3 : Int} {M : Mm} {Q : Mm → Option Mv → Prop} (hS : RefOK M) (H : ((0 ≤ (3 : Int) ∧ (3 : Int) ≤ 3 → ((¬ gI M 78 1 = 0 → ((-2147483648 ≤ gI M 78 2 - 1 ∧ gI M 78 2 - 1 < 2147483648) ∧ ((0 ≤ x2 ∧ x2 ≤ gI M 78 2 - 1 → Wq 1 0 0 mS_cut 0 [iR 78, iI x3] [] M (fun M' v => Wq 3 0 0 mD_put 71 [iR 0, iI 3, iI x2, iI x3, iR 78] (v.toList ++ [vI x2, vR 79]) M' Q)) ∧ (¬ (0 ≤ x2 ∧ x2 ≤ gI M 78 2 - 1) → Q (sI M 69 1 (wr (gI M 69 1 + 1))) (some (vI (-1000001))))))) ∧ (gI M 78 1 = 0 → Q (sI M 69 2 (wr (gI M 69 2 + 1))) (some (vI (-1000002)))))) ∧ (¬ (0 ≤ (3 : Int) ∧ (3 : Int) ≤ 3) → Q (sI M 69 1 (wr (gI M 69 1 + 1))) (some (vI (-1000001)))))) : Wq 3 0 0 mD_put 0 [iR 0, iI 3, iI x2, iI x3, none] [] M Q := by
  refine wq_iload_n (pc := 0) dD_put_0 rfl rfl ?_
  refine wq_callS (d' := 2) (pc := 1) (as := [vI 3]) (rest := []) (lo' := [iI 3]) dD_put_1 mO_D_isSheet lS_D_284 rfl rfl rfl rfl rfl rfl ?_
  refine sp_D_isSheet (fun c1 => ?_) (fun c1 => ?_)
  · have H := H.1 c1
    show Wq 3 0 0 mD_put 4 [iR 0, iI 3, iI x2, iI x3, none] [vI 1] M _
    refine wq_if_ne (pc := 4) (tgt := 14) dD_put_4 (by decide) (fun _ => ?_) (fun q => absurd q (by decide))
    refine wq_aload_n (pc := 14) dD_put_14 rfl rfl ?_
    refine wq_getR (pc := 15) (z := 5) (b := 68) dD_put_15 fO_D_42 sh_0 rfl rfl (rf_0_5 hS) ?_
    refine wq_iload_n (pc := 18) dD_put_18 rfl rfl ?_
    refine wq_aald (pc := 19) (b := 78) dD_put_19 sh_68 (by decide) (by decide) (rf_68_3 hS) ?_
    refine wq_astore (pc := 20) (lo' := [iR 0, iI 3, iI x2, iI x3, iR 78]) dD_put_20 rfl rfl ?_
    refine wq_aload (pc := 22) dD_put_22 rfl ?_
    refine wq_getI (pc := 24) (z := 1) dD_put_24 fO_D_287 sh_78 rfl rfl ?_
    refine wq_if_ne (pc := 27) (tgt := 37) dD_put_27 (by decide) (fun c2 => ?_) (fun c2 => ?_)
    · have H := H.1 c2
      obtain ⟨s3, H⟩ := H
      refine wq_iload_n (pc := 37) dD_put_37 rfl rfl ?_
      refine wq_iconst (pc := 38) dD_put_38 rfl ?_
      refine wq_aload (pc := 39) dD_put_39 rfl ?_
      refine wq_getI (pc := 41) (z := 2) dD_put_41 fO_D_320 sh_78 rfl rfl ?_
      refine wq_iconst (pc := 44) dD_put_44 rfl ?_
      refine wq_isub (pc := 45) dD_put_45 ?_
      refine wq_re (x := (wr (gI M 78 2 - 1))) (y := (gI M 78 2 - 1)) (Eq.trans (wr_eq (by omega) (by omega)) (by omega)) ?_
      refine wq_callS (d' := 1) (pc := 46) (as := [vI x2, vI 0, vI (gI M 78 2 - 1)]) (rest := []) (lo' := [iI x2, iI 0, iI (gI M 78 2 - 1)]) dD_put_46 mO_D_within lS_D_65 rfl rfl rfl rfl rfl rfl ?_
      refine sp_D_within (fun c4 => ?_) (fun c4 => ?_)
      · have H := H.1 c4
        show Wq 3 0 0 mD_put 49 [iR 0, iI 3, iI x2, iI x3, iR 78] [vI 1] M _
        refine wq_if_ne (pc := 49) (tgt := 59) dD_put_49 (by decide) (fun _ => ?_) (fun q => absurd q (by decide))
        refine wq_aload (pc := 59) dD_put_59 rfl ?_
        refine wq_getR (pc := 61) (z := 0) (b := 79) dD_put_61 fO_D_294 sh_78 rfl rfl (rf_78_0 hS) ?_
        refine wq_iload_n (pc := 64) dD_put_64 rfl rfl ?_
        refine wq_aload (pc := 65) dD_put_65 rfl ?_
        refine wq_iload_n (pc := 67) dD_put_67 rfl rfl ?_
        refine wq_callV (d' := 1) (pc := 68) (as := [vI x3]) (rest := [vI x2, vR 79]) (lo' := [iR 78, iI x3]) dD_put_68 mO_S_cut lV_D_323 sh_78 (by decide) cl_6 rfl rfl rfl rfl rfl rfl ?_
        exact H
      · have H := H.2 c4
        show Wq 3 0 0 mD_put 49 [iR 0, iI 3, iI x2, iI x3, iR 78] [vI 0] M _
        refine wq_if_ne (pc := 49) (tgt := 59) dD_put_49 (by decide) (fun q => absurd q (by decide)) (fun _ => ?_)
        refine wq_aload_n (pc := 52) dD_put_52 rfl rfl ?_
        refine wq_ldc (pc := 53) (z := (-1000001)) dD_put_53 kO_D_69 (by decide) ?_
        refine wq_callV (d' := 2) (pc := 55) (as := [vI (-1000001)]) (rest := []) (lo' := [iR 0, iI ((-1000001)), none]) dD_put_55 mO_D_finding lV_D_70 sh_0 (by decide) cl_10 rfl rfl rfl rfl rfl rfl ?_
        refine sp_D_finding (k := 1) (by decide) (by decide) (by decide) hS ?_
        show Wq 3 0 0 mD_put 58 [iR 0, iI 3, iI x2, iI x3, iR 78] [vI (-1000001)] (sI M 69 1 (wr (gI M 69 1 + 1))) _
        refine wq_ireturn (pc := 58) dD_put_58 trivial ?_
        exact H
    · have H := H.2 c2
      refine wq_aload_n (pc := 30) dD_put_30 rfl rfl ?_
      refine wq_ldc (pc := 31) (z := (-1000002)) dD_put_31 kO_D_125 (by decide) ?_
      refine wq_callV (d' := 2) (pc := 33) (as := [vI (-1000002)]) (rest := []) (lo' := [iR 0, iI ((-1000002)), none]) dD_put_33 mO_D_finding lV_D_70 sh_0 (by decide) cl_10 rfl rfl rfl rfl rfl rfl ?_
      refine sp_D_finding (k := 2) (by decide) (by decide) (by decide) hS ?_
      show Wq 3 0 0 mD_put 36 [iR 0, iI 3, iI x2, iI x3, iR 78] [vI (-1000002)] (sI M 69 2 (wr (gI M 69 2 + 1))) _
      refine wq_ireturn (pc := 36) dD_put_36 trivial ?_
      exact H
  · have H := H.2 c1
    show Wq 3 0 0 mD_put 4 [iR 0, iI 3, iI x2, iI x3, none] [vI 0] M _
    refine wq_if_ne (pc := 4) (tgt := 14) dD_put_4 (by decide) (fun q => absurd q (by decide)) (fun _ => ?_)
    refine wq_aload_n (pc := 7) dD_put_7 rfl rfl ?_
    refine wq_ldc (pc := 8) (z := (-1000001)) dD_put_8 kO_D_69 (by decide) ?_
    refine wq_callV (d' := 2) (pc := 10) (as := [vI (-1000001)]) (rest := []) (lo' := [iR 0, iI ((-1000001)), none]) dD_put_10 mO_D_finding lV_D_70 sh_0 (by decide) cl_10 rfl rfl rfl rfl rfl rfl ?_
    refine sp_D_finding (k := 1) (by decide) (by decide) (by decide) hS ?_
    show Wq 3 0 0 mD_put 13 [iR 0, iI 3, iI x2, iI x3, none] [vI (-1000001)] (sI M 69 1 (wr (gI M 69 1 + 1))) _
    refine wq_ireturn (pc := 13) dD_put_13 trivial ?_
    exact H

set_option maxRecDepth 20000 in
theorem B_D_put_s3_71 {x2 x3 y0 y1 : Int} {M : Mm} {Q : Mm → Option Mv → Prop} (H : ((0 ≤ y1 ∧ y1 < 24) ∧ Q (sI M 79 y1 y0) (some (vI 1)))) : Wq 3 0 0 mD_put 71 [iR 0, iI 3, iI x2, iI x3, iR 78] [vI y0, vI y1, vR 79] M Q := by
  obtain ⟨s1, H⟩ := H
  refine wq_iast (pc := 71) dD_put_71 sh_79 (by decide) s1.1 s1.2 ?_
  refine wq_iconst (pc := 72) dD_put_72 rfl ?_
  refine wq_ireturn (pc := 73) dD_put_73 trivial ?_
  exact H
set_option maxRecDepth 20000 in
theorem B_D_move_s30_0 {x2 x4 x5 : Int} {M : Mm} {Q : Mm → Option Mv → Prop} (hS : RefOK M) (H : ((0 ≤ (3 : Int) ∧ (3 : Int) ≤ 3 → ((0 ≤ (0 : Int) ∧ (0 : Int) ≤ 3 → ((gI M 78 1 = 0 → Q (sI M 69 2 (wr (gI M 69 2 + 1))) (some (vI (-1000002)))) ∧ (¬ gI M 78 1 = 0 → ((¬ gI M 72 1 = 0 → ((gI M 78 1 = gI M 72 1 → ((x5 < 0 → Q (sI M 69 1 (wr (gI M 69 1 + 1))) (some (vI (-1000001)))) ∧ (¬ x5 < 0 → ((-2147483648 ≤ gI M 78 2 - x5 ∧ gI M 78 2 - x5 < 2147483648) ∧ ((0 ≤ x2 ∧ x2 ≤ gI M 78 2 - x5 → ((-2147483648 ≤ gI M 72 2 - x5 ∧ gI M 72 2 - x5 < 2147483648) ∧ ((0 ≤ x4 ∧ x4 ≤ gI M 72 2 - x5 → ((0 ≤ x2 ∧ 0 ≤ x4 ∧ 0 ≤ x5 ∧ x2 + x5 ≤ 24 ∧ x4 + x5 ≤ 24) ∧ Q (cI M 79 x2 73 x4 x5) (some (vI x5)))) ∧ (¬ (0 ≤ x4 ∧ x4 ≤ gI M 72 2 - x5) → Q (sI M 69 1 (wr (gI M 69 1 + 1))) (some (vI (-1000001))))))) ∧ (¬ (0 ≤ x2 ∧ x2 ≤ gI M 78 2 - x5) → Q (sI M 69 1 (wr (gI M 69 1 + 1))) (some (vI (-1000001))))))))) ∧ (¬ gI M 78 1 = gI M 72 1 → Q (sI M 69 5 (wr (gI M 69 5 + 1))) (some (vI (-1000005)))))) ∧ (gI M 72 1 = 0 → Q (sI M 69 2 (wr (gI M 69 2 + 1))) (some (vI (-1000002)))))))) ∧ (¬ (0 ≤ (0 : Int) ∧ (0 : Int) ≤ 3) → Q (sI M 69 1 (wr (gI M 69 1 + 1))) (some (vI (-1000001)))))) ∧ (¬ (0 ≤ (3 : Int) ∧ (3 : Int) ≤ 3) → Q (sI M 69 1 (wr (gI M 69 1 + 1))) (some (vI (-1000001)))))) : Wq 3 0 0 mD_move 0 [iR 0, iI 3, iI x2, iI 0, iI x4, iI x5, none, none] [] M Q := by
  refine wq_iload_n (pc := 0) dD_move_0 rfl rfl ?_
  refine wq_callS (d' := 2) (pc := 1) (as := [vI 3]) (rest := []) (lo' := [iI 3]) dD_move_1 mO_D_isSheet lS_D_284 rfl rfl rfl rfl rfl rfl ?_
  refine sp_D_isSheet (fun c1 => ?_) (fun c1 => ?_)
  · have H := H.1 c1
    show Wq 3 0 0 mD_move 4 [iR 0, iI 3, iI x2, iI 0, iI x4, iI x5, none, none] [vI 1] M _
    refine wq_if_eq (pc := 4) (tgt := 14) dD_move_4 (by decide) (fun q => absurd q (by decide)) (fun _ => ?_)
    refine wq_iload_n (pc := 7) dD_move_7 rfl rfl ?_
    refine wq_callS (d' := 2) (pc := 8) (as := [vI 0]) (rest := []) (lo' := [iI 0]) dD_move_8 mO_D_isSheet lS_D_284 rfl rfl rfl rfl rfl rfl ?_
    refine sp_D_isSheet (fun c2 => ?_) (fun c2 => ?_)
    · have H := H.1 c2
      show Wq 3 0 0 mD_move 11 [iR 0, iI 3, iI x2, iI 0, iI x4, iI x5, none, none] [vI 1] M _
      refine wq_if_ne (pc := 11) (tgt := 21) dD_move_11 (by decide) (fun _ => ?_) (fun q => absurd q (by decide))
      refine wq_aload_n (pc := 21) dD_move_21 rfl rfl ?_
      refine wq_getR (pc := 22) (z := 5) (b := 68) dD_move_22 fO_D_42 sh_0 rfl rfl (rf_0_5 hS) ?_
      refine wq_iload_n (pc := 25) dD_move_25 rfl rfl ?_
      refine wq_aald (pc := 26) (b := 78) dD_move_26 sh_68 (by decide) (by decide) (rf_68_3 hS) ?_
      refine wq_astore (pc := 27) (lo' := [iR 0, iI 3, iI x2, iI 0, iI x4, iI x5, iR 78, none]) dD_move_27 rfl rfl ?_
      refine wq_aload_n (pc := 29) dD_move_29 rfl rfl ?_
      refine wq_getR (pc := 30) (z := 5) (b := 68) dD_move_30 fO_D_42 sh_0 rfl rfl (rf_0_5 hS) ?_
      refine wq_iload_n (pc := 33) dD_move_33 rfl rfl ?_
      refine wq_aald (pc := 34) (b := 72) dD_move_34 sh_68 (by decide) (by decide) (rf_68_0 hS) ?_
      refine wq_astore (pc := 35) (lo' := [iR 0, iI 3, iI x2, iI 0, iI x4, iI x5, iR 78, iR 72]) dD_move_35 rfl rfl ?_
      refine wq_aload (pc := 37) dD_move_37 rfl ?_
      refine wq_getI (pc := 39) (z := 1) dD_move_39 fO_D_287 sh_78 rfl rfl ?_
      refine wq_if_eq (pc := 42) (tgt := 53) dD_move_42 (by decide) (fun c3 => ?_) (fun c3 => ?_)
      · have H := H.1 c3
        refine wq_aload_n (pc := 53) dD_move_53 rfl rfl ?_
        refine wq_ldc (pc := 54) (z := (-1000002)) dD_move_54 kO_D_125 (by decide) ?_
        refine wq_callV (d' := 2) (pc := 56) (as := [vI (-1000002)]) (rest := []) (lo' := [iR 0, iI ((-1000002)), none]) dD_move_56 mO_D_finding lV_D_70 sh_0 (by decide) cl_10 rfl rfl rfl rfl rfl rfl ?_
        refine sp_D_finding (k := 2) (by decide) (by decide) (by decide) hS ?_
        show Wq 3 0 0 mD_move 59 [iR 0, iI 3, iI x2, iI 0, iI x4, iI x5, iR 78, iR 72] [vI (-1000002)] (sI M 69 2 (wr (gI M 69 2 + 1))) _
        refine wq_ireturn (pc := 59) dD_move_59 trivial ?_
        exact H
      · have H := H.2 c3
        refine wq_aload (pc := 45) dD_move_45 rfl ?_
        refine wq_getI (pc := 47) (z := 1) dD_move_47 fO_D_287 sh_72 rfl rfl ?_
        refine wq_if_ne (pc := 50) (tgt := 60) dD_move_50 (by decide) (fun c4 => ?_) (fun c4 => ?_)
        · have H := H.1 c4
          refine wq_aload (pc := 60) dD_move_60 rfl ?_
          refine wq_getI (pc := 62) (z := 1) dD_move_62 fO_D_287 sh_78 rfl rfl ?_
          refine wq_aload (pc := 65) dD_move_65 rfl ?_
          refine wq_getI (pc := 67) (z := 1) dD_move_67 fO_D_287 sh_72 rfl rfl ?_
          refine wq_icmp_eq (pc := 70) (tgt := 80) dD_move_70 (by decide) (fun c5 => ?_) (fun c5 => ?_)
          · have H := H.1 c5
            refine wq_iload (pc := 80) dD_move_80 rfl ?_
            refine wq_if_lt (pc := 82) (tgt := 118) dD_move_82 (by decide) (fun c6 => ?_) (fun c6 => ?_)
            · have H := H.1 c6
              refine wq_aload_n (pc := 118) dD_move_118 rfl rfl ?_
              refine wq_ldc (pc := 119) (z := (-1000001)) dD_move_119 kO_D_69 (by decide) ?_
              refine wq_callV (d' := 2) (pc := 121) (as := [vI (-1000001)]) (rest := []) (lo' := [iR 0, iI ((-1000001)), none]) dD_move_121 mO_D_finding lV_D_70 sh_0 (by decide) cl_10 rfl rfl rfl rfl rfl rfl ?_
              refine sp_D_finding (k := 1) (by decide) (by decide) (by decide) hS ?_
              show Wq 3 0 0 mD_move 124 [iR 0, iI 3, iI x2, iI 0, iI x4, iI x5, iR 78, iR 72] [vI (-1000001)] (sI M 69 1 (wr (gI M 69 1 + 1))) _
              refine wq_ireturn (pc := 124) dD_move_124 trivial ?_
              exact H
            · have H := H.2 c6
              obtain ⟨s7, H⟩ := H
              refine wq_iload_n (pc := 85) dD_move_85 rfl rfl ?_
              refine wq_iconst (pc := 86) dD_move_86 rfl ?_
              refine wq_aload (pc := 87) dD_move_87 rfl ?_
              refine wq_getI (pc := 89) (z := 2) dD_move_89 fO_D_320 sh_78 rfl rfl ?_
              refine wq_iload (pc := 92) dD_move_92 rfl ?_
              refine wq_isub (pc := 94) dD_move_94 ?_
              refine wq_re (x := (wr (gI M 78 2 - x5))) (y := (gI M 78 2 - x5)) (Eq.trans (wr_eq (by omega) (by omega)) (by omega)) ?_
              refine wq_callS (d' := 1) (pc := 95) (as := [vI x2, vI 0, vI (gI M 78 2 - x5)]) (rest := []) (lo' := [iI x2, iI 0, iI (gI M 78 2 - x5)]) dD_move_95 mO_D_within lS_D_65 rfl rfl rfl rfl rfl rfl ?_
              refine sp_D_within (fun c8 => ?_) (fun c8 => ?_)
              · have H := H.1 c8
                show Wq 3 0 0 mD_move 98 [iR 0, iI 3, iI x2, iI 0, iI x4, iI x5, iR 78, iR 72] [vI 1] M _
                obtain ⟨s9, H⟩ := H
                refine wq_if_eq (pc := 98) (tgt := 118) dD_move_98 (by decide) (fun q => absurd q (by decide)) (fun _ => ?_)
                refine wq_iload (pc := 101) dD_move_101 rfl ?_
                refine wq_iconst (pc := 103) dD_move_103 rfl ?_
                refine wq_aload (pc := 104) dD_move_104 rfl ?_
                refine wq_getI (pc := 106) (z := 2) dD_move_106 fO_D_320 sh_72 rfl rfl ?_
                refine wq_iload (pc := 109) dD_move_109 rfl ?_
                refine wq_isub (pc := 111) dD_move_111 ?_
                refine wq_re (x := (wr (gI M 72 2 - x5))) (y := (gI M 72 2 - x5)) (Eq.trans (wr_eq (by omega) (by omega)) (by omega)) ?_
                refine wq_callS (d' := 1) (pc := 112) (as := [vI x4, vI 0, vI (gI M 72 2 - x5)]) (rest := []) (lo' := [iI x4, iI 0, iI (gI M 72 2 - x5)]) dD_move_112 mO_D_within lS_D_65 rfl rfl rfl rfl rfl rfl ?_
                refine sp_D_within (fun c10 => ?_) (fun c10 => ?_)
                · have H := H.1 c10
                  show Wq 3 0 0 mD_move 115 [iR 0, iI 3, iI x2, iI 0, iI x4, iI x5, iR 78, iR 72] [vI 1] M _
                  obtain ⟨s11, H⟩ := H
                  refine wq_if_ne (pc := 115) (tgt := 125) dD_move_115 (by decide) (fun _ => ?_) (fun q => absurd q (by decide))
                  refine wq_aload (pc := 125) dD_move_125 rfl ?_
                  refine wq_getR (pc := 127) (z := 0) (b := 79) dD_move_127 fO_D_294 sh_78 rfl rfl (rf_78_0 hS) ?_
                  refine wq_iload_n (pc := 130) dD_move_130 rfl rfl ?_
                  refine wq_aload (pc := 131) dD_move_131 rfl ?_
                  refine wq_getR (pc := 133) (z := 0) (b := 73) dD_move_133 fO_D_294 sh_72 rfl rfl (rf_72_0 hS) ?_
                  refine wq_iload (pc := 136) dD_move_136 rfl ?_
                  refine wq_iload (pc := 138) dD_move_138 rfl ?_
                  refine wq_cpI (pc := 140) dD_move_140 aC_D_326 (Or.inl ⟨sh_79, sh_73⟩) (by decide) (by decide) s11.1 s11.2.1 s11.2.2.1 (by have := s11; omega) (by have := s11; omega) rfl ?_
                  refine wq_iload (pc := 143) dD_move_143 rfl ?_
                  refine wq_ireturn (pc := 145) dD_move_145 trivial ?_
                  exact H
                · have H := H.2 c10
                  show Wq 3 0 0 mD_move 115 [iR 0, iI 3, iI x2, iI 0, iI x4, iI x5, iR 78, iR 72] [vI 0] M _
                  refine wq_if_ne (pc := 115) (tgt := 125) dD_move_115 (by decide) (fun q => absurd q (by decide)) (fun _ => ?_)
                  refine wq_aload_n (pc := 118) dD_move_118 rfl rfl ?_
                  refine wq_ldc (pc := 119) (z := (-1000001)) dD_move_119 kO_D_69 (by decide) ?_
                  refine wq_callV (d' := 2) (pc := 121) (as := [vI (-1000001)]) (rest := []) (lo' := [iR 0, iI ((-1000001)), none]) dD_move_121 mO_D_finding lV_D_70 sh_0 (by decide) cl_10 rfl rfl rfl rfl rfl rfl ?_
                  refine sp_D_finding (k := 1) (by decide) (by decide) (by decide) hS ?_
                  show Wq 3 0 0 mD_move 124 [iR 0, iI 3, iI x2, iI 0, iI x4, iI x5, iR 78, iR 72] [vI (-1000001)] (sI M 69 1 (wr (gI M 69 1 + 1))) _
                  refine wq_ireturn (pc := 124) dD_move_124 trivial ?_
                  exact H
              · have H := H.2 c8
                show Wq 3 0 0 mD_move 98 [iR 0, iI 3, iI x2, iI 0, iI x4, iI x5, iR 78, iR 72] [vI 0] M _
                refine wq_if_eq (pc := 98) (tgt := 118) dD_move_98 (by decide) (fun _ => ?_) (fun q => absurd (by decide) q)
                refine wq_aload_n (pc := 118) dD_move_118 rfl rfl ?_
                refine wq_ldc (pc := 119) (z := (-1000001)) dD_move_119 kO_D_69 (by decide) ?_
                refine wq_callV (d' := 2) (pc := 121) (as := [vI (-1000001)]) (rest := []) (lo' := [iR 0, iI ((-1000001)), none]) dD_move_121 mO_D_finding lV_D_70 sh_0 (by decide) cl_10 rfl rfl rfl rfl rfl rfl ?_
                refine sp_D_finding (k := 1) (by decide) (by decide) (by decide) hS ?_
                show Wq 3 0 0 mD_move 124 [iR 0, iI 3, iI x2, iI 0, iI x4, iI x5, iR 78, iR 72] [vI (-1000001)] (sI M 69 1 (wr (gI M 69 1 + 1))) _
                refine wq_ireturn (pc := 124) dD_move_124 trivial ?_
                exact H
          · have H := H.2 c5
            refine wq_aload_n (pc := 73) dD_move_73 rfl rfl ?_
            refine wq_ldc (pc := 74) (z := (-1000005)) dD_move_74 kO_D_98 (by decide) ?_
            refine wq_callV (d' := 2) (pc := 76) (as := [vI (-1000005)]) (rest := []) (lo' := [iR 0, iI ((-1000005)), none]) dD_move_76 mO_D_finding lV_D_70 sh_0 (by decide) cl_10 rfl rfl rfl rfl rfl rfl ?_
            refine sp_D_finding (k := 5) (by decide) (by decide) (by decide) hS ?_
            show Wq 3 0 0 mD_move 79 [iR 0, iI 3, iI x2, iI 0, iI x4, iI x5, iR 78, iR 72] [vI (-1000005)] (sI M 69 5 (wr (gI M 69 5 + 1))) _
            refine wq_ireturn (pc := 79) dD_move_79 trivial ?_
            exact H
        · have H := H.2 c4
          refine wq_aload_n (pc := 53) dD_move_53 rfl rfl ?_
          refine wq_ldc (pc := 54) (z := (-1000002)) dD_move_54 kO_D_125 (by decide) ?_
          refine wq_callV (d' := 2) (pc := 56) (as := [vI (-1000002)]) (rest := []) (lo' := [iR 0, iI ((-1000002)), none]) dD_move_56 mO_D_finding lV_D_70 sh_0 (by decide) cl_10 rfl rfl rfl rfl rfl rfl ?_
          refine sp_D_finding (k := 2) (by decide) (by decide) (by decide) hS ?_
          show Wq 3 0 0 mD_move 59 [iR 0, iI 3, iI x2, iI 0, iI x4, iI x5, iR 78, iR 72] [vI (-1000002)] (sI M 69 2 (wr (gI M 69 2 + 1))) _
          refine wq_ireturn (pc := 59) dD_move_59 trivial ?_
          exact H
    · have H := H.2 c2
      show Wq 3 0 0 mD_move 11 [iR 0, iI 3, iI x2, iI 0, iI x4, iI x5, none, none] [vI 0] M _
      refine wq_if_ne (pc := 11) (tgt := 21) dD_move_11 (by decide) (fun q => absurd q (by decide)) (fun _ => ?_)
      refine wq_aload_n (pc := 14) dD_move_14 rfl rfl ?_
      refine wq_ldc (pc := 15) (z := (-1000001)) dD_move_15 kO_D_69 (by decide) ?_
      refine wq_callV (d' := 2) (pc := 17) (as := [vI (-1000001)]) (rest := []) (lo' := [iR 0, iI ((-1000001)), none]) dD_move_17 mO_D_finding lV_D_70 sh_0 (by decide) cl_10 rfl rfl rfl rfl rfl rfl ?_
      refine sp_D_finding (k := 1) (by decide) (by decide) (by decide) hS ?_
      show Wq 3 0 0 mD_move 20 [iR 0, iI 3, iI x2, iI 0, iI x4, iI x5, none, none] [vI (-1000001)] (sI M 69 1 (wr (gI M 69 1 + 1))) _
      refine wq_ireturn (pc := 20) dD_move_20 trivial ?_
      exact H
  · have H := H.2 c1
    show Wq 3 0 0 mD_move 4 [iR 0, iI 3, iI x2, iI 0, iI x4, iI x5, none, none] [vI 0] M _
    refine wq_if_eq (pc := 4) (tgt := 14) dD_move_4 (by decide) (fun _ => ?_) (fun q => absurd (by decide) q)
    refine wq_aload_n (pc := 14) dD_move_14 rfl rfl ?_
    refine wq_ldc (pc := 15) (z := (-1000001)) dD_move_15 kO_D_69 (by decide) ?_
    refine wq_callV (d' := 2) (pc := 17) (as := [vI (-1000001)]) (rest := []) (lo' := [iR 0, iI ((-1000001)), none]) dD_move_17 mO_D_finding lV_D_70 sh_0 (by decide) cl_10 rfl rfl rfl rfl rfl rfl ?_
    refine sp_D_finding (k := 1) (by decide) (by decide) (by decide) hS ?_
    show Wq 3 0 0 mD_move 20 [iR 0, iI 3, iI x2, iI 0, iI x4, iI x5, none, none] [vI (-1000001)] (sI M 69 1 (wr (gI M 69 1 + 1))) _
    refine wq_ireturn (pc := 20) dD_move_20 trivial ?_
    exact H
set_option maxRecDepth 20000 in
theorem B_D_move_s31_0 {x2 x4 x5 : Int} {M : Mm} {Q : Mm → Option Mv → Prop} (hS : RefOK M) (H : ((0 ≤ (3 : Int) ∧ (3 : Int) ≤ 3 → ((0 ≤ (1 : Int) ∧ (1 : Int) ≤ 3 → ((gI M 78 1 = 0 → Q (sI M 69 2 (wr (gI M 69 2 + 1))) (some (vI (-1000002)))) ∧ (¬ gI M 78 1 = 0 → ((¬ gI M 74 1 = 0 → ((gI M 78 1 = gI M 74 1 → ((x5 < 0 → Q (sI M 69 1 (wr (gI M 69 1 + 1))) (some (vI (-1000001)))) ∧ (¬ x5 < 0 → ((-2147483648 ≤ gI M 78 2 - x5 ∧ gI M 78 2 - x5 < 2147483648) ∧ ((0 ≤ x2 ∧ x2 ≤ gI M 78 2 - x5 → ((-2147483648 ≤ gI M 74 2 - x5 ∧ gI M 74 2 - x5 < 2147483648) ∧ ((0 ≤ x4 ∧ x4 ≤ gI M 74 2 - x5 → ((0 ≤ x2 ∧ 0 ≤ x4 ∧ 0 ≤ x5 ∧ x2 + x5 ≤ 24 ∧ x4 + x5 ≤ 24) ∧ Q (cI M 79 x2 75 x4 x5) (some (vI x5)))) ∧ (¬ (0 ≤ x4 ∧ x4 ≤ gI M 74 2 - x5) → Q (sI M 69 1 (wr (gI M 69 1 + 1))) (some (vI (-1000001))))))) ∧ (¬ (0 ≤ x2 ∧ x2 ≤ gI M 78 2 - x5) → Q (sI M 69 1 (wr (gI M 69 1 + 1))) (some (vI (-1000001))))))))) ∧ (¬ gI M 78 1 = gI M 74 1 → Q (sI M 69 5 (wr (gI M 69 5 + 1))) (some (vI (-1000005)))))) ∧ (gI M 74 1 = 0 → Q (sI M 69 2 (wr (gI M 69 2 + 1))) (some (vI (-1000002)))))))) ∧ (¬ (0 ≤ (1 : Int) ∧ (1 : Int) ≤ 3) → Q (sI M 69 1 (wr (gI M 69 1 + 1))) (some (vI (-1000001)))))) ∧ (¬ (0 ≤ (3 : Int) ∧ (3 : Int) ≤ 3) → Q (sI M 69 1 (wr (gI M 69 1 + 1))) (some (vI (-1000001)))))) : Wq 3 0 0 mD_move 0 [iR 0, iI 3, iI x2, iI 1, iI x4, iI x5, none, none] [] M Q := by
  refine wq_iload_n (pc := 0) dD_move_0 rfl rfl ?_
  refine wq_callS (d' := 2) (pc := 1) (as := [vI 3]) (rest := []) (lo' := [iI 3]) dD_move_1 mO_D_isSheet lS_D_284 rfl rfl rfl rfl rfl rfl ?_
  refine sp_D_isSheet (fun c1 => ?_) (fun c1 => ?_)
  · have H := H.1 c1
    show Wq 3 0 0 mD_move 4 [iR 0, iI 3, iI x2, iI 1, iI x4, iI x5, none, none] [vI 1] M _
    refine wq_if_eq (pc := 4) (tgt := 14) dD_move_4 (by decide) (fun q => absurd q (by decide)) (fun _ => ?_)
    refine wq_iload_n (pc := 7) dD_move_7 rfl rfl ?_
    refine wq_callS (d' := 2) (pc := 8) (as := [vI 1]) (rest := []) (lo' := [iI 1]) dD_move_8 mO_D_isSheet lS_D_284 rfl rfl rfl rfl rfl rfl ?_
    refine sp_D_isSheet (fun c2 => ?_) (fun c2 => ?_)
    · have H := H.1 c2
      show Wq 3 0 0 mD_move 11 [iR 0, iI 3, iI x2, iI 1, iI x4, iI x5, none, none] [vI 1] M _
      refine wq_if_ne (pc := 11) (tgt := 21) dD_move_11 (by decide) (fun _ => ?_) (fun q => absurd q (by decide))
      refine wq_aload_n (pc := 21) dD_move_21 rfl rfl ?_
      refine wq_getR (pc := 22) (z := 5) (b := 68) dD_move_22 fO_D_42 sh_0 rfl rfl (rf_0_5 hS) ?_
      refine wq_iload_n (pc := 25) dD_move_25 rfl rfl ?_
      refine wq_aald (pc := 26) (b := 78) dD_move_26 sh_68 (by decide) (by decide) (rf_68_3 hS) ?_
      refine wq_astore (pc := 27) (lo' := [iR 0, iI 3, iI x2, iI 1, iI x4, iI x5, iR 78, none]) dD_move_27 rfl rfl ?_
      refine wq_aload_n (pc := 29) dD_move_29 rfl rfl ?_
      refine wq_getR (pc := 30) (z := 5) (b := 68) dD_move_30 fO_D_42 sh_0 rfl rfl (rf_0_5 hS) ?_
      refine wq_iload_n (pc := 33) dD_move_33 rfl rfl ?_
      refine wq_aald (pc := 34) (b := 74) dD_move_34 sh_68 (by decide) (by decide) (rf_68_1 hS) ?_
      refine wq_astore (pc := 35) (lo' := [iR 0, iI 3, iI x2, iI 1, iI x4, iI x5, iR 78, iR 74]) dD_move_35 rfl rfl ?_
      refine wq_aload (pc := 37) dD_move_37 rfl ?_
      refine wq_getI (pc := 39) (z := 1) dD_move_39 fO_D_287 sh_78 rfl rfl ?_
      refine wq_if_eq (pc := 42) (tgt := 53) dD_move_42 (by decide) (fun c3 => ?_) (fun c3 => ?_)
      · have H := H.1 c3
        refine wq_aload_n (pc := 53) dD_move_53 rfl rfl ?_
        refine wq_ldc (pc := 54) (z := (-1000002)) dD_move_54 kO_D_125 (by decide) ?_
        refine wq_callV (d' := 2) (pc := 56) (as := [vI (-1000002)]) (rest := []) (lo' := [iR 0, iI ((-1000002)), none]) dD_move_56 mO_D_finding lV_D_70 sh_0 (by decide) cl_10 rfl rfl rfl rfl rfl rfl ?_
        refine sp_D_finding (k := 2) (by decide) (by decide) (by decide) hS ?_
        show Wq 3 0 0 mD_move 59 [iR 0, iI 3, iI x2, iI 1, iI x4, iI x5, iR 78, iR 74] [vI (-1000002)] (sI M 69 2 (wr (gI M 69 2 + 1))) _
        refine wq_ireturn (pc := 59) dD_move_59 trivial ?_
        exact H
      · have H := H.2 c3
        refine wq_aload (pc := 45) dD_move_45 rfl ?_
        refine wq_getI (pc := 47) (z := 1) dD_move_47 fO_D_287 sh_74 rfl rfl ?_
        refine wq_if_ne (pc := 50) (tgt := 60) dD_move_50 (by decide) (fun c4 => ?_) (fun c4 => ?_)
        · have H := H.1 c4
          refine wq_aload (pc := 60) dD_move_60 rfl ?_
          refine wq_getI (pc := 62) (z := 1) dD_move_62 fO_D_287 sh_78 rfl rfl ?_
          refine wq_aload (pc := 65) dD_move_65 rfl ?_
          refine wq_getI (pc := 67) (z := 1) dD_move_67 fO_D_287 sh_74 rfl rfl ?_
          refine wq_icmp_eq (pc := 70) (tgt := 80) dD_move_70 (by decide) (fun c5 => ?_) (fun c5 => ?_)
          · have H := H.1 c5
            refine wq_iload (pc := 80) dD_move_80 rfl ?_
            refine wq_if_lt (pc := 82) (tgt := 118) dD_move_82 (by decide) (fun c6 => ?_) (fun c6 => ?_)
            · have H := H.1 c6
              refine wq_aload_n (pc := 118) dD_move_118 rfl rfl ?_
              refine wq_ldc (pc := 119) (z := (-1000001)) dD_move_119 kO_D_69 (by decide) ?_
              refine wq_callV (d' := 2) (pc := 121) (as := [vI (-1000001)]) (rest := []) (lo' := [iR 0, iI ((-1000001)), none]) dD_move_121 mO_D_finding lV_D_70 sh_0 (by decide) cl_10 rfl rfl rfl rfl rfl rfl ?_
              refine sp_D_finding (k := 1) (by decide) (by decide) (by decide) hS ?_
              show Wq 3 0 0 mD_move 124 [iR 0, iI 3, iI x2, iI 1, iI x4, iI x5, iR 78, iR 74] [vI (-1000001)] (sI M 69 1 (wr (gI M 69 1 + 1))) _
              refine wq_ireturn (pc := 124) dD_move_124 trivial ?_
              exact H
            · have H := H.2 c6
              obtain ⟨s7, H⟩ := H
              refine wq_iload_n (pc := 85) dD_move_85 rfl rfl ?_
              refine wq_iconst (pc := 86) dD_move_86 rfl ?_
              refine wq_aload (pc := 87) dD_move_87 rfl ?_
              refine wq_getI (pc := 89) (z := 2) dD_move_89 fO_D_320 sh_78 rfl rfl ?_
              refine wq_iload (pc := 92) dD_move_92 rfl ?_
              refine wq_isub (pc := 94) dD_move_94 ?_
              refine wq_re (x := (wr (gI M 78 2 - x5))) (y := (gI M 78 2 - x5)) (Eq.trans (wr_eq (by omega) (by omega)) (by omega)) ?_
              refine wq_callS (d' := 1) (pc := 95) (as := [vI x2, vI 0, vI (gI M 78 2 - x5)]) (rest := []) (lo' := [iI x2, iI 0, iI (gI M 78 2 - x5)]) dD_move_95 mO_D_within lS_D_65 rfl rfl rfl rfl rfl rfl ?_
              refine sp_D_within (fun c8 => ?_) (fun c8 => ?_)
              · have H := H.1 c8
                show Wq 3 0 0 mD_move 98 [iR 0, iI 3, iI x2, iI 1, iI x4, iI x5, iR 78, iR 74] [vI 1] M _
                obtain ⟨s9, H⟩ := H
                refine wq_if_eq (pc := 98) (tgt := 118) dD_move_98 (by decide) (fun q => absurd q (by decide)) (fun _ => ?_)
                refine wq_iload (pc := 101) dD_move_101 rfl ?_
                refine wq_iconst (pc := 103) dD_move_103 rfl ?_
                refine wq_aload (pc := 104) dD_move_104 rfl ?_
                refine wq_getI (pc := 106) (z := 2) dD_move_106 fO_D_320 sh_74 rfl rfl ?_
                refine wq_iload (pc := 109) dD_move_109 rfl ?_
                refine wq_isub (pc := 111) dD_move_111 ?_
                refine wq_re (x := (wr (gI M 74 2 - x5))) (y := (gI M 74 2 - x5)) (Eq.trans (wr_eq (by omega) (by omega)) (by omega)) ?_
                refine wq_callS (d' := 1) (pc := 112) (as := [vI x4, vI 0, vI (gI M 74 2 - x5)]) (rest := []) (lo' := [iI x4, iI 0, iI (gI M 74 2 - x5)]) dD_move_112 mO_D_within lS_D_65 rfl rfl rfl rfl rfl rfl ?_
                refine sp_D_within (fun c10 => ?_) (fun c10 => ?_)
                · have H := H.1 c10
                  show Wq 3 0 0 mD_move 115 [iR 0, iI 3, iI x2, iI 1, iI x4, iI x5, iR 78, iR 74] [vI 1] M _
                  obtain ⟨s11, H⟩ := H
                  refine wq_if_ne (pc := 115) (tgt := 125) dD_move_115 (by decide) (fun _ => ?_) (fun q => absurd q (by decide))
                  refine wq_aload (pc := 125) dD_move_125 rfl ?_
                  refine wq_getR (pc := 127) (z := 0) (b := 79) dD_move_127 fO_D_294 sh_78 rfl rfl (rf_78_0 hS) ?_
                  refine wq_iload_n (pc := 130) dD_move_130 rfl rfl ?_
                  refine wq_aload (pc := 131) dD_move_131 rfl ?_
                  refine wq_getR (pc := 133) (z := 0) (b := 75) dD_move_133 fO_D_294 sh_74 rfl rfl (rf_74_0 hS) ?_
                  refine wq_iload (pc := 136) dD_move_136 rfl ?_
                  refine wq_iload (pc := 138) dD_move_138 rfl ?_
                  refine wq_cpI (pc := 140) dD_move_140 aC_D_326 (Or.inl ⟨sh_79, sh_75⟩) (by decide) (by decide) s11.1 s11.2.1 s11.2.2.1 (by have := s11; omega) (by have := s11; omega) rfl ?_
                  refine wq_iload (pc := 143) dD_move_143 rfl ?_
                  refine wq_ireturn (pc := 145) dD_move_145 trivial ?_
                  exact H
                · have H := H.2 c10
                  show Wq 3 0 0 mD_move 115 [iR 0, iI 3, iI x2, iI 1, iI x4, iI x5, iR 78, iR 74] [vI 0] M _
                  refine wq_if_ne (pc := 115) (tgt := 125) dD_move_115 (by decide) (fun q => absurd q (by decide)) (fun _ => ?_)
                  refine wq_aload_n (pc := 118) dD_move_118 rfl rfl ?_
                  refine wq_ldc (pc := 119) (z := (-1000001)) dD_move_119 kO_D_69 (by decide) ?_
                  refine wq_callV (d' := 2) (pc := 121) (as := [vI (-1000001)]) (rest := []) (lo' := [iR 0, iI ((-1000001)), none]) dD_move_121 mO_D_finding lV_D_70 sh_0 (by decide) cl_10 rfl rfl rfl rfl rfl rfl ?_
                  refine sp_D_finding (k := 1) (by decide) (by decide) (by decide) hS ?_
                  show Wq 3 0 0 mD_move 124 [iR 0, iI 3, iI x2, iI 1, iI x4, iI x5, iR 78, iR 74] [vI (-1000001)] (sI M 69 1 (wr (gI M 69 1 + 1))) _
                  refine wq_ireturn (pc := 124) dD_move_124 trivial ?_
                  exact H
              · have H := H.2 c8
                show Wq 3 0 0 mD_move 98 [iR 0, iI 3, iI x2, iI 1, iI x4, iI x5, iR 78, iR 74] [vI 0] M _
                refine wq_if_eq (pc := 98) (tgt := 118) dD_move_98 (by decide) (fun _ => ?_) (fun q => absurd (by decide) q)
                refine wq_aload_n (pc := 118) dD_move_118 rfl rfl ?_
                refine wq_ldc (pc := 119) (z := (-1000001)) dD_move_119 kO_D_69 (by decide) ?_
                refine wq_callV (d' := 2) (pc := 121) (as := [vI (-1000001)]) (rest := []) (lo' := [iR 0, iI ((-1000001)), none]) dD_move_121 mO_D_finding lV_D_70 sh_0 (by decide) cl_10 rfl rfl rfl rfl rfl rfl ?_
                refine sp_D_finding (k := 1) (by decide) (by decide) (by decide) hS ?_
                show Wq 3 0 0 mD_move 124 [iR 0, iI 3, iI x2, iI 1, iI x4, iI x5, iR 78, iR 74] [vI (-1000001)] (sI M 69 1 (wr (gI M 69 1 + 1))) _
                refine wq_ireturn (pc := 124) dD_move_124 trivial ?_
                exact H
          · have H := H.2 c5
            refine wq_aload_n (pc := 73) dD_move_73 rfl rfl ?_
            refine wq_ldc (pc := 74) (z := (-1000005)) dD_move_74 kO_D_98 (by decide) ?_
            refine wq_callV (d' := 2) (pc := 76) (as := [vI (-1000005)]) (rest := []) (lo' := [iR 0, iI ((-1000005)), none]) dD_move_76 mO_D_finding lV_D_70 sh_0 (by decide) cl_10 rfl rfl rfl rfl rfl rfl ?_
            refine sp_D_finding (k := 5) (by decide) (by decide) (by decide) hS ?_
            show Wq 3 0 0 mD_move 79 [iR 0, iI 3, iI x2, iI 1, iI x4, iI x5, iR 78, iR 74] [vI (-1000005)] (sI M 69 5 (wr (gI M 69 5 + 1))) _
            refine wq_ireturn (pc := 79) dD_move_79 trivial ?_
            exact H
        · have H := H.2 c4
          refine wq_aload_n (pc := 53) dD_move_53 rfl rfl ?_
          refine wq_ldc (pc := 54) (z := (-1000002)) dD_move_54 kO_D_125 (by decide) ?_
          refine wq_callV (d' := 2) (pc := 56) (as := [vI (-1000002)]) (rest := []) (lo' := [iR 0, iI ((-1000002)), none]) dD_move_56 mO_D_finding lV_D_70 sh_0 (by decide) cl_10 rfl rfl rfl rfl rfl rfl ?_
          refine sp_D_finding (k := 2) (by decide) (by decide) (by decide) hS ?_
          show Wq 3 0 0 mD_move 59 [iR 0, iI 3, iI x2, iI 1, iI x4, iI x5, iR 78, iR 74] [vI (-1000002)] (sI M 69 2 (wr (gI M 69 2 + 1))) _
          refine wq_ireturn (pc := 59) dD_move_59 trivial ?_
          exact H
    · have H := H.2 c2
      show Wq 3 0 0 mD_move 11 [iR 0, iI 3, iI x2, iI 1, iI x4, iI x5, none, none] [vI 0] M _
      refine wq_if_ne (pc := 11) (tgt := 21) dD_move_11 (by decide) (fun q => absurd q (by decide)) (fun _ => ?_)
      refine wq_aload_n (pc := 14) dD_move_14 rfl rfl ?_
      refine wq_ldc (pc := 15) (z := (-1000001)) dD_move_15 kO_D_69 (by decide) ?_
      refine wq_callV (d' := 2) (pc := 17) (as := [vI (-1000001)]) (rest := []) (lo' := [iR 0, iI ((-1000001)), none]) dD_move_17 mO_D_finding lV_D_70 sh_0 (by decide) cl_10 rfl rfl rfl rfl rfl rfl ?_
      refine sp_D_finding (k := 1) (by decide) (by decide) (by decide) hS ?_
      show Wq 3 0 0 mD_move 20 [iR 0, iI 3, iI x2, iI 1, iI x4, iI x5, none, none] [vI (-1000001)] (sI M 69 1 (wr (gI M 69 1 + 1))) _
      refine wq_ireturn (pc := 20) dD_move_20 trivial ?_
      exact H
  · have H := H.2 c1
    show Wq 3 0 0 mD_move 4 [iR 0, iI 3, iI x2, iI 1, iI x4, iI x5, none, none] [vI 0] M _
    refine wq_if_eq (pc := 4) (tgt := 14) dD_move_4 (by decide) (fun _ => ?_) (fun q => absurd (by decide) q)
    refine wq_aload_n (pc := 14) dD_move_14 rfl rfl ?_
    refine wq_ldc (pc := 15) (z := (-1000001)) dD_move_15 kO_D_69 (by decide) ?_
    refine wq_callV (d' := 2) (pc := 17) (as := [vI (-1000001)]) (rest := []) (lo' := [iR 0, iI ((-1000001)), none]) dD_move_17 mO_D_finding lV_D_70 sh_0 (by decide) cl_10 rfl rfl rfl rfl rfl rfl ?_
    refine sp_D_finding (k := 1) (by decide) (by decide) (by decide) hS ?_
    show Wq 3 0 0 mD_move 20 [iR 0, iI 3, iI x2, iI 1, iI x4, iI x5, none, none] [vI (-1000001)] (sI M 69 1 (wr (gI M 69 1 + 1))) _
    refine wq_ireturn (pc := 20) dD_move_20 trivial ?_
    exact H
set_option maxRecDepth 20000 in
theorem B_D_move_s32_0 {x2 x4 x5 : Int} {M : Mm} {Q : Mm → Option Mv → Prop} (hS : RefOK M) (H : ((0 ≤ (3 : Int) ∧ (3 : Int) ≤ 3 → ((0 ≤ (2 : Int) ∧ (2 : Int) ≤ 3 → ((gI M 78 1 = 0 → Q (sI M 69 2 (wr (gI M 69 2 + 1))) (some (vI (-1000002)))) ∧ (¬ gI M 78 1 = 0 → ((¬ gI M 76 1 = 0 → ((gI M 78 1 = gI M 76 1 → ((x5 < 0 → Q (sI M 69 1 (wr (gI M 69 1 + 1))) (some (vI (-1000001)))) ∧ (¬ x5 < 0 → ((-2147483648 ≤ gI M 78 2 - x5 ∧ gI M 78 2 - x5 < 2147483648) ∧ ((0 ≤ x2 ∧ x2 ≤ gI M 78 2 - x5 → ((-2147483648 ≤ gI M 76 2 - x5 ∧ gI M 76 2 - x5 < 2147483648) ∧ ((0 ≤ x4 ∧ x4 ≤ gI M 76 2 - x5 → ((0 ≤ x2 ∧ 0 ≤ x4 ∧ 0 ≤ x5 ∧ x2 + x5 ≤ 24 ∧ x4 + x5 ≤ 24) ∧ Q (cI M 79 x2 77 x4 x5) (some (vI x5)))) ∧ (¬ (0 ≤ x4 ∧ x4 ≤ gI M 76 2 - x5) → Q (sI M 69 1 (wr (gI M 69 1 + 1))) (some (vI (-1000001))))))) ∧ (¬ (0 ≤ x2 ∧ x2 ≤ gI M 78 2 - x5) → Q (sI M 69 1 (wr (gI M 69 1 + 1))) (some (vI (-1000001))))))))) ∧ (¬ gI M 78 1 = gI M 76 1 → Q (sI M 69 5 (wr (gI M 69 5 + 1))) (some (vI (-1000005)))))) ∧ (gI M 76 1 = 0 → Q (sI M 69 2 (wr (gI M 69 2 + 1))) (some (vI (-1000002)))))))) ∧ (¬ (0 ≤ (2 : Int) ∧ (2 : Int) ≤ 3) → Q (sI M 69 1 (wr (gI M 69 1 + 1))) (some (vI (-1000001)))))) ∧ (¬ (0 ≤ (3 : Int) ∧ (3 : Int) ≤ 3) → Q (sI M 69 1 (wr (gI M 69 1 + 1))) (some (vI (-1000001)))))) : Wq 3 0 0 mD_move 0 [iR 0, iI 3, iI x2, iI 2, iI x4, iI x5, none, none] [] M Q := by
  refine wq_iload_n (pc := 0) dD_move_0 rfl rfl ?_
  refine wq_callS (d' := 2) (pc := 1) (as := [vI 3]) (rest := []) (lo' := [iI 3]) dD_move_1 mO_D_isSheet lS_D_284 rfl rfl rfl rfl rfl rfl ?_
  refine sp_D_isSheet (fun c1 => ?_) (fun c1 => ?_)
  · have H := H.1 c1
    show Wq 3 0 0 mD_move 4 [iR 0, iI 3, iI x2, iI 2, iI x4, iI x5, none, none] [vI 1] M _
    refine wq_if_eq (pc := 4) (tgt := 14) dD_move_4 (by decide) (fun q => absurd q (by decide)) (fun _ => ?_)
    refine wq_iload_n (pc := 7) dD_move_7 rfl rfl ?_
    refine wq_callS (d' := 2) (pc := 8) (as := [vI 2]) (rest := []) (lo' := [iI 2]) dD_move_8 mO_D_isSheet lS_D_284 rfl rfl rfl rfl rfl rfl ?_
    refine sp_D_isSheet (fun c2 => ?_) (fun c2 => ?_)
    · have H := H.1 c2
      show Wq 3 0 0 mD_move 11 [iR 0, iI 3, iI x2, iI 2, iI x4, iI x5, none, none] [vI 1] M _
      refine wq_if_ne (pc := 11) (tgt := 21) dD_move_11 (by decide) (fun _ => ?_) (fun q => absurd q (by decide))
      refine wq_aload_n (pc := 21) dD_move_21 rfl rfl ?_
      refine wq_getR (pc := 22) (z := 5) (b := 68) dD_move_22 fO_D_42 sh_0 rfl rfl (rf_0_5 hS) ?_
      refine wq_iload_n (pc := 25) dD_move_25 rfl rfl ?_
      refine wq_aald (pc := 26) (b := 78) dD_move_26 sh_68 (by decide) (by decide) (rf_68_3 hS) ?_
      refine wq_astore (pc := 27) (lo' := [iR 0, iI 3, iI x2, iI 2, iI x4, iI x5, iR 78, none]) dD_move_27 rfl rfl ?_
      refine wq_aload_n (pc := 29) dD_move_29 rfl rfl ?_
      refine wq_getR (pc := 30) (z := 5) (b := 68) dD_move_30 fO_D_42 sh_0 rfl rfl (rf_0_5 hS) ?_
      refine wq_iload_n (pc := 33) dD_move_33 rfl rfl ?_
      refine wq_aald (pc := 34) (b := 76) dD_move_34 sh_68 (by decide) (by decide) (rf_68_2 hS) ?_
      refine wq_astore (pc := 35) (lo' := [iR 0, iI 3, iI x2, iI 2, iI x4, iI x5, iR 78, iR 76]) dD_move_35 rfl rfl ?_
      refine wq_aload (pc := 37) dD_move_37 rfl ?_
      refine wq_getI (pc := 39) (z := 1) dD_move_39 fO_D_287 sh_78 rfl rfl ?_
      refine wq_if_eq (pc := 42) (tgt := 53) dD_move_42 (by decide) (fun c3 => ?_) (fun c3 => ?_)
      · have H := H.1 c3
        refine wq_aload_n (pc := 53) dD_move_53 rfl rfl ?_
        refine wq_ldc (pc := 54) (z := (-1000002)) dD_move_54 kO_D_125 (by decide) ?_
        refine wq_callV (d' := 2) (pc := 56) (as := [vI (-1000002)]) (rest := []) (lo' := [iR 0, iI ((-1000002)), none]) dD_move_56 mO_D_finding lV_D_70 sh_0 (by decide) cl_10 rfl rfl rfl rfl rfl rfl ?_
        refine sp_D_finding (k := 2) (by decide) (by decide) (by decide) hS ?_
        show Wq 3 0 0 mD_move 59 [iR 0, iI 3, iI x2, iI 2, iI x4, iI x5, iR 78, iR 76] [vI (-1000002)] (sI M 69 2 (wr (gI M 69 2 + 1))) _
        refine wq_ireturn (pc := 59) dD_move_59 trivial ?_
        exact H
      · have H := H.2 c3
        refine wq_aload (pc := 45) dD_move_45 rfl ?_
        refine wq_getI (pc := 47) (z := 1) dD_move_47 fO_D_287 sh_76 rfl rfl ?_
        refine wq_if_ne (pc := 50) (tgt := 60) dD_move_50 (by decide) (fun c4 => ?_) (fun c4 => ?_)
        · have H := H.1 c4
          refine wq_aload (pc := 60) dD_move_60 rfl ?_
          refine wq_getI (pc := 62) (z := 1) dD_move_62 fO_D_287 sh_78 rfl rfl ?_
          refine wq_aload (pc := 65) dD_move_65 rfl ?_
          refine wq_getI (pc := 67) (z := 1) dD_move_67 fO_D_287 sh_76 rfl rfl ?_
          refine wq_icmp_eq (pc := 70) (tgt := 80) dD_move_70 (by decide) (fun c5 => ?_) (fun c5 => ?_)
          · have H := H.1 c5
            refine wq_iload (pc := 80) dD_move_80 rfl ?_
            refine wq_if_lt (pc := 82) (tgt := 118) dD_move_82 (by decide) (fun c6 => ?_) (fun c6 => ?_)
            · have H := H.1 c6
              refine wq_aload_n (pc := 118) dD_move_118 rfl rfl ?_
              refine wq_ldc (pc := 119) (z := (-1000001)) dD_move_119 kO_D_69 (by decide) ?_
              refine wq_callV (d' := 2) (pc := 121) (as := [vI (-1000001)]) (rest := []) (lo' := [iR 0, iI ((-1000001)), none]) dD_move_121 mO_D_finding lV_D_70 sh_0 (by decide) cl_10 rfl rfl rfl rfl rfl rfl ?_
              refine sp_D_finding (k := 1) (by decide) (by decide) (by decide) hS ?_
              show Wq 3 0 0 mD_move 124 [iR 0, iI 3, iI x2, iI 2, iI x4, iI x5, iR 78, iR 76] [vI (-1000001)] (sI M 69 1 (wr (gI M 69 1 + 1))) _
              refine wq_ireturn (pc := 124) dD_move_124 trivial ?_
              exact H
            · have H := H.2 c6
              obtain ⟨s7, H⟩ := H
              refine wq_iload_n (pc := 85) dD_move_85 rfl rfl ?_
              refine wq_iconst (pc := 86) dD_move_86 rfl ?_
              refine wq_aload (pc := 87) dD_move_87 rfl ?_
              refine wq_getI (pc := 89) (z := 2) dD_move_89 fO_D_320 sh_78 rfl rfl ?_
              refine wq_iload (pc := 92) dD_move_92 rfl ?_
              refine wq_isub (pc := 94) dD_move_94 ?_
              refine wq_re (x := (wr (gI M 78 2 - x5))) (y := (gI M 78 2 - x5)) (Eq.trans (wr_eq (by omega) (by omega)) (by omega)) ?_
              refine wq_callS (d' := 1) (pc := 95) (as := [vI x2, vI 0, vI (gI M 78 2 - x5)]) (rest := []) (lo' := [iI x2, iI 0, iI (gI M 78 2 - x5)]) dD_move_95 mO_D_within lS_D_65 rfl rfl rfl rfl rfl rfl ?_
              refine sp_D_within (fun c8 => ?_) (fun c8 => ?_)
              · have H := H.1 c8
                show Wq 3 0 0 mD_move 98 [iR 0, iI 3, iI x2, iI 2, iI x4, iI x5, iR 78, iR 76] [vI 1] M _
                obtain ⟨s9, H⟩ := H
                refine wq_if_eq (pc := 98) (tgt := 118) dD_move_98 (by decide) (fun q => absurd q (by decide)) (fun _ => ?_)
                refine wq_iload (pc := 101) dD_move_101 rfl ?_
                refine wq_iconst (pc := 103) dD_move_103 rfl ?_
                refine wq_aload (pc := 104) dD_move_104 rfl ?_
                refine wq_getI (pc := 106) (z := 2) dD_move_106 fO_D_320 sh_76 rfl rfl ?_
                refine wq_iload (pc := 109) dD_move_109 rfl ?_
                refine wq_isub (pc := 111) dD_move_111 ?_
                refine wq_re (x := (wr (gI M 76 2 - x5))) (y := (gI M 76 2 - x5)) (Eq.trans (wr_eq (by omega) (by omega)) (by omega)) ?_
                refine wq_callS (d' := 1) (pc := 112) (as := [vI x4, vI 0, vI (gI M 76 2 - x5)]) (rest := []) (lo' := [iI x4, iI 0, iI (gI M 76 2 - x5)]) dD_move_112 mO_D_within lS_D_65 rfl rfl rfl rfl rfl rfl ?_
                refine sp_D_within (fun c10 => ?_) (fun c10 => ?_)
                · have H := H.1 c10
                  show Wq 3 0 0 mD_move 115 [iR 0, iI 3, iI x2, iI 2, iI x4, iI x5, iR 78, iR 76] [vI 1] M _
                  obtain ⟨s11, H⟩ := H
                  refine wq_if_ne (pc := 115) (tgt := 125) dD_move_115 (by decide) (fun _ => ?_) (fun q => absurd q (by decide))
                  refine wq_aload (pc := 125) dD_move_125 rfl ?_
                  refine wq_getR (pc := 127) (z := 0) (b := 79) dD_move_127 fO_D_294 sh_78 rfl rfl (rf_78_0 hS) ?_
                  refine wq_iload_n (pc := 130) dD_move_130 rfl rfl ?_
                  refine wq_aload (pc := 131) dD_move_131 rfl ?_
                  refine wq_getR (pc := 133) (z := 0) (b := 77) dD_move_133 fO_D_294 sh_76 rfl rfl (rf_76_0 hS) ?_
                  refine wq_iload (pc := 136) dD_move_136 rfl ?_
                  refine wq_iload (pc := 138) dD_move_138 rfl ?_
                  refine wq_cpI (pc := 140) dD_move_140 aC_D_326 (Or.inl ⟨sh_79, sh_77⟩) (by decide) (by decide) s11.1 s11.2.1 s11.2.2.1 (by have := s11; omega) (by have := s11; omega) rfl ?_
                  refine wq_iload (pc := 143) dD_move_143 rfl ?_
                  refine wq_ireturn (pc := 145) dD_move_145 trivial ?_
                  exact H
                · have H := H.2 c10
                  show Wq 3 0 0 mD_move 115 [iR 0, iI 3, iI x2, iI 2, iI x4, iI x5, iR 78, iR 76] [vI 0] M _
                  refine wq_if_ne (pc := 115) (tgt := 125) dD_move_115 (by decide) (fun q => absurd q (by decide)) (fun _ => ?_)
                  refine wq_aload_n (pc := 118) dD_move_118 rfl rfl ?_
                  refine wq_ldc (pc := 119) (z := (-1000001)) dD_move_119 kO_D_69 (by decide) ?_
                  refine wq_callV (d' := 2) (pc := 121) (as := [vI (-1000001)]) (rest := []) (lo' := [iR 0, iI ((-1000001)), none]) dD_move_121 mO_D_finding lV_D_70 sh_0 (by decide) cl_10 rfl rfl rfl rfl rfl rfl ?_
                  refine sp_D_finding (k := 1) (by decide) (by decide) (by decide) hS ?_
                  show Wq 3 0 0 mD_move 124 [iR 0, iI 3, iI x2, iI 2, iI x4, iI x5, iR 78, iR 76] [vI (-1000001)] (sI M 69 1 (wr (gI M 69 1 + 1))) _
                  refine wq_ireturn (pc := 124) dD_move_124 trivial ?_
                  exact H
              · have H := H.2 c8
                show Wq 3 0 0 mD_move 98 [iR 0, iI 3, iI x2, iI 2, iI x4, iI x5, iR 78, iR 76] [vI 0] M _
                refine wq_if_eq (pc := 98) (tgt := 118) dD_move_98 (by decide) (fun _ => ?_) (fun q => absurd (by decide) q)
                refine wq_aload_n (pc := 118) dD_move_118 rfl rfl ?_
                refine wq_ldc (pc := 119) (z := (-1000001)) dD_move_119 kO_D_69 (by decide) ?_
                refine wq_callV (d' := 2) (pc := 121) (as := [vI (-1000001)]) (rest := []) (lo' := [iR 0, iI ((-1000001)), none]) dD_move_121 mO_D_finding lV_D_70 sh_0 (by decide) cl_10 rfl rfl rfl rfl rfl rfl ?_
                refine sp_D_finding (k := 1) (by decide) (by decide) (by decide) hS ?_
                show Wq 3 0 0 mD_move 124 [iR 0, iI 3, iI x2, iI 2, iI x4, iI x5, iR 78, iR 76] [vI (-1000001)] (sI M 69 1 (wr (gI M 69 1 + 1))) _
                refine wq_ireturn (pc := 124) dD_move_124 trivial ?_
                exact H
          · have H := H.2 c5
            refine wq_aload_n (pc := 73) dD_move_73 rfl rfl ?_
            refine wq_ldc (pc := 74) (z := (-1000005)) dD_move_74 kO_D_98 (by decide) ?_
            refine wq_callV (d' := 2) (pc := 76) (as := [vI (-1000005)]) (rest := []) (lo' := [iR 0, iI ((-1000005)), none]) dD_move_76 mO_D_finding lV_D_70 sh_0 (by decide) cl_10 rfl rfl rfl rfl rfl rfl ?_
            refine sp_D_finding (k := 5) (by decide) (by decide) (by decide) hS ?_
            show Wq 3 0 0 mD_move 79 [iR 0, iI 3, iI x2, iI 2, iI x4, iI x5, iR 78, iR 76] [vI (-1000005)] (sI M 69 5 (wr (gI M 69 5 + 1))) _
            refine wq_ireturn (pc := 79) dD_move_79 trivial ?_
            exact H
        · have H := H.2 c4
          refine wq_aload_n (pc := 53) dD_move_53 rfl rfl ?_
          refine wq_ldc (pc := 54) (z := (-1000002)) dD_move_54 kO_D_125 (by decide) ?_
          refine wq_callV (d' := 2) (pc := 56) (as := [vI (-1000002)]) (rest := []) (lo' := [iR 0, iI ((-1000002)), none]) dD_move_56 mO_D_finding lV_D_70 sh_0 (by decide) cl_10 rfl rfl rfl rfl rfl rfl ?_
          refine sp_D_finding (k := 2) (by decide) (by decide) (by decide) hS ?_
          show Wq 3 0 0 mD_move 59 [iR 0, iI 3, iI x2, iI 2, iI x4, iI x5, iR 78, iR 76] [vI (-1000002)] (sI M 69 2 (wr (gI M 69 2 + 1))) _
          refine wq_ireturn (pc := 59) dD_move_59 trivial ?_
          exact H
    · have H := H.2 c2
      show Wq 3 0 0 mD_move 11 [iR 0, iI 3, iI x2, iI 2, iI x4, iI x5, none, none] [vI 0] M _
      refine wq_if_ne (pc := 11) (tgt := 21) dD_move_11 (by decide) (fun q => absurd q (by decide)) (fun _ => ?_)
      refine wq_aload_n (pc := 14) dD_move_14 rfl rfl ?_
      refine wq_ldc (pc := 15) (z := (-1000001)) dD_move_15 kO_D_69 (by decide) ?_
      refine wq_callV (d' := 2) (pc := 17) (as := [vI (-1000001)]) (rest := []) (lo' := [iR 0, iI ((-1000001)), none]) dD_move_17 mO_D_finding lV_D_70 sh_0 (by decide) cl_10 rfl rfl rfl rfl rfl rfl ?_
      refine sp_D_finding (k := 1) (by decide) (by decide) (by decide) hS ?_
      show Wq 3 0 0 mD_move 20 [iR 0, iI 3, iI x2, iI 2, iI x4, iI x5, none, none] [vI (-1000001)] (sI M 69 1 (wr (gI M 69 1 + 1))) _
      refine wq_ireturn (pc := 20) dD_move_20 trivial ?_
      exact H
  · have H := H.2 c1
    show Wq 3 0 0 mD_move 4 [iR 0, iI 3, iI x2, iI 2, iI x4, iI x5, none, none] [vI 0] M _
    refine wq_if_eq (pc := 4) (tgt := 14) dD_move_4 (by decide) (fun _ => ?_) (fun q => absurd (by decide) q)
    refine wq_aload_n (pc := 14) dD_move_14 rfl rfl ?_
    refine wq_ldc (pc := 15) (z := (-1000001)) dD_move_15 kO_D_69 (by decide) ?_
    refine wq_callV (d' := 2) (pc := 17) (as := [vI (-1000001)]) (rest := []) (lo' := [iR 0, iI ((-1000001)), none]) dD_move_17 mO_D_finding lV_D_70 sh_0 (by decide) cl_10 rfl rfl rfl rfl rfl rfl ?_
    refine sp_D_finding (k := 1) (by decide) (by decide) (by decide) hS ?_
    show Wq 3 0 0 mD_move 20 [iR 0, iI 3, iI x2, iI 2, iI x4, iI x5, none, none] [vI (-1000001)] (sI M 69 1 (wr (gI M 69 1 + 1))) _
    refine wq_ireturn (pc := 20) dD_move_20 trivial ?_
    exact H
set_option maxRecDepth 20000 in
theorem B_D_move_s33_0 {x2 x4 x5 : Int} {M : Mm} {Q : Mm → Option Mv → Prop} (hS : RefOK M) (H : ((0 ≤ (3 : Int) ∧ (3 : Int) ≤ 3 → ((0 ≤ (3 : Int) ∧ (3 : Int) ≤ 3 → ((gI M 78 1 = 0 → Q (sI M 69 2 (wr (gI M 69 2 + 1))) (some (vI (-1000002)))) ∧ (¬ gI M 78 1 = 0 → ((¬ gI M 78 1 = 0 → ((gI M 78 1 = gI M 78 1 → ((x5 < 0 → Q (sI M 69 1 (wr (gI M 69 1 + 1))) (some (vI (-1000001)))) ∧ (¬ x5 < 0 → ((-2147483648 ≤ gI M 78 2 - x5 ∧ gI M 78 2 - x5 < 2147483648) ∧ ((0 ≤ x2 ∧ x2 ≤ gI M 78 2 - x5 → ((0 ≤ x4 ∧ x4 ≤ gI M 78 2 - x5 → ((0 ≤ x2 ∧ 0 ≤ x4 ∧ 0 ≤ x5 ∧ x2 + x5 ≤ 24 ∧ x4 + x5 ≤ 24) ∧ Q (cI M 79 x2 79 x4 x5) (some (vI x5)))) ∧ (¬ (0 ≤ x4 ∧ x4 ≤ gI M 78 2 - x5) → Q (sI M 69 1 (wr (gI M 69 1 + 1))) (some (vI (-1000001)))))) ∧ (¬ (0 ≤ x2 ∧ x2 ≤ gI M 78 2 - x5) → Q (sI M 69 1 (wr (gI M 69 1 + 1))) (some (vI (-1000001))))))))) ∧ (¬ gI M 78 1 = gI M 78 1 → Q (sI M 69 5 (wr (gI M 69 5 + 1))) (some (vI (-1000005)))))) ∧ (gI M 78 1 = 0 → Q (sI M 69 2 (wr (gI M 69 2 + 1))) (some (vI (-1000002)))))))) ∧ (¬ (0 ≤ (3 : Int) ∧ (3 : Int) ≤ 3) → Q (sI M 69 1 (wr (gI M 69 1 + 1))) (some (vI (-1000001)))))) ∧ (¬ (0 ≤ (3 : Int) ∧ (3 : Int) ≤ 3) → Q (sI M 69 1 (wr (gI M 69 1 + 1))) (some (vI (-1000001)))))) : Wq 3 0 0 mD_move 0 [iR 0, iI 3, iI x2, iI 3, iI x4, iI x5, none, none] [] M Q := by
  refine wq_iload_n (pc := 0) dD_move_0 rfl rfl ?_
  refine wq_callS (d' := 2) (pc := 1) (as := [vI 3]) (rest := []) (lo' := [iI 3]) dD_move_1 mO_D_isSheet lS_D_284 rfl rfl rfl rfl rfl rfl ?_
  refine sp_D_isSheet (fun c1 => ?_) (fun c1 => ?_)
  · have H := H.1 c1
    show Wq 3 0 0 mD_move 4 [iR 0, iI 3, iI x2, iI 3, iI x4, iI x5, none, none] [vI 1] M _
    refine wq_if_eq (pc := 4) (tgt := 14) dD_move_4 (by decide) (fun q => absurd q (by decide)) (fun _ => ?_)
    refine wq_iload_n (pc := 7) dD_move_7 rfl rfl ?_
    refine wq_callS (d' := 2) (pc := 8) (as := [vI 3]) (rest := []) (lo' := [iI 3]) dD_move_8 mO_D_isSheet lS_D_284 rfl rfl rfl rfl rfl rfl ?_
    refine sp_D_isSheet (fun c2 => ?_) (fun c2 => ?_)
    · have H := H.1 c2
      show Wq 3 0 0 mD_move 11 [iR 0, iI 3, iI x2, iI 3, iI x4, iI x5, none, none] [vI 1] M _
      refine wq_if_ne (pc := 11) (tgt := 21) dD_move_11 (by decide) (fun _ => ?_) (fun q => absurd q (by decide))
      refine wq_aload_n (pc := 21) dD_move_21 rfl rfl ?_
      refine wq_getR (pc := 22) (z := 5) (b := 68) dD_move_22 fO_D_42 sh_0 rfl rfl (rf_0_5 hS) ?_
      refine wq_iload_n (pc := 25) dD_move_25 rfl rfl ?_
      refine wq_aald (pc := 26) (b := 78) dD_move_26 sh_68 (by decide) (by decide) (rf_68_3 hS) ?_
      refine wq_astore (pc := 27) (lo' := [iR 0, iI 3, iI x2, iI 3, iI x4, iI x5, iR 78, none]) dD_move_27 rfl rfl ?_
      refine wq_aload_n (pc := 29) dD_move_29 rfl rfl ?_
      refine wq_getR (pc := 30) (z := 5) (b := 68) dD_move_30 fO_D_42 sh_0 rfl rfl (rf_0_5 hS) ?_
      refine wq_iload_n (pc := 33) dD_move_33 rfl rfl ?_
      refine wq_aald (pc := 34) (b := 78) dD_move_34 sh_68 (by decide) (by decide) (rf_68_3 hS) ?_
      refine wq_astore (pc := 35) (lo' := [iR 0, iI 3, iI x2, iI 3, iI x4, iI x5, iR 78, iR 78]) dD_move_35 rfl rfl ?_
      refine wq_aload (pc := 37) dD_move_37 rfl ?_
      refine wq_getI (pc := 39) (z := 1) dD_move_39 fO_D_287 sh_78 rfl rfl ?_
      refine wq_if_eq (pc := 42) (tgt := 53) dD_move_42 (by decide) (fun c3 => ?_) (fun c3 => ?_)
      · have H := H.1 c3
        refine wq_aload_n (pc := 53) dD_move_53 rfl rfl ?_
        refine wq_ldc (pc := 54) (z := (-1000002)) dD_move_54 kO_D_125 (by decide) ?_
        refine wq_callV (d' := 2) (pc := 56) (as := [vI (-1000002)]) (rest := []) (lo' := [iR 0, iI ((-1000002)), none]) dD_move_56 mO_D_finding lV_D_70 sh_0 (by decide) cl_10 rfl rfl rfl rfl rfl rfl ?_
        refine sp_D_finding (k := 2) (by decide) (by decide) (by decide) hS ?_
        show Wq 3 0 0 mD_move 59 [iR 0, iI 3, iI x2, iI 3, iI x4, iI x5, iR 78, iR 78] [vI (-1000002)] (sI M 69 2 (wr (gI M 69 2 + 1))) _
        refine wq_ireturn (pc := 59) dD_move_59 trivial ?_
        exact H
      · have H := H.2 c3
        refine wq_aload (pc := 45) dD_move_45 rfl ?_
        refine wq_getI (pc := 47) (z := 1) dD_move_47 fO_D_287 sh_78 rfl rfl ?_
        refine wq_if_ne (pc := 50) (tgt := 60) dD_move_50 (by decide) (fun c4 => ?_) (fun c4 => ?_)
        · have H := H.1 c4
          refine wq_aload (pc := 60) dD_move_60 rfl ?_
          refine wq_getI (pc := 62) (z := 1) dD_move_62 fO_D_287 sh_78 rfl rfl ?_
          refine wq_aload (pc := 65) dD_move_65 rfl ?_
          refine wq_getI (pc := 67) (z := 1) dD_move_67 fO_D_287 sh_78 rfl rfl ?_
          refine wq_icmp_eq (pc := 70) (tgt := 80) dD_move_70 (by decide) (fun c5 => ?_) (fun c5 => ?_)
          · have H := H.1 c5
            refine wq_iload (pc := 80) dD_move_80 rfl ?_
            refine wq_if_lt (pc := 82) (tgt := 118) dD_move_82 (by decide) (fun c6 => ?_) (fun c6 => ?_)
            · have H := H.1 c6
              refine wq_aload_n (pc := 118) dD_move_118 rfl rfl ?_
              refine wq_ldc (pc := 119) (z := (-1000001)) dD_move_119 kO_D_69 (by decide) ?_
              refine wq_callV (d' := 2) (pc := 121) (as := [vI (-1000001)]) (rest := []) (lo' := [iR 0, iI ((-1000001)), none]) dD_move_121 mO_D_finding lV_D_70 sh_0 (by decide) cl_10 rfl rfl rfl rfl rfl rfl ?_
              refine sp_D_finding (k := 1) (by decide) (by decide) (by decide) hS ?_
              show Wq 3 0 0 mD_move 124 [iR 0, iI 3, iI x2, iI 3, iI x4, iI x5, iR 78, iR 78] [vI (-1000001)] (sI M 69 1 (wr (gI M 69 1 + 1))) _
              refine wq_ireturn (pc := 124) dD_move_124 trivial ?_
              exact H
            · have H := H.2 c6
              obtain ⟨s7, H⟩ := H
              refine wq_iload_n (pc := 85) dD_move_85 rfl rfl ?_
              refine wq_iconst (pc := 86) dD_move_86 rfl ?_
              refine wq_aload (pc := 87) dD_move_87 rfl ?_
              refine wq_getI (pc := 89) (z := 2) dD_move_89 fO_D_320 sh_78 rfl rfl ?_
              refine wq_iload (pc := 92) dD_move_92 rfl ?_
              refine wq_isub (pc := 94) dD_move_94 ?_
              refine wq_re (x := (wr (gI M 78 2 - x5))) (y := (gI M 78 2 - x5)) (Eq.trans (wr_eq (by omega) (by omega)) (by omega)) ?_
              refine wq_callS (d' := 1) (pc := 95) (as := [vI x2, vI 0, vI (gI M 78 2 - x5)]) (rest := []) (lo' := [iI x2, iI 0, iI (gI M 78 2 - x5)]) dD_move_95 mO_D_within lS_D_65 rfl rfl rfl rfl rfl rfl ?_
              refine sp_D_within (fun c8 => ?_) (fun c8 => ?_)
              · have H := H.1 c8
                show Wq 3 0 0 mD_move 98 [iR 0, iI 3, iI x2, iI 3, iI x4, iI x5, iR 78, iR 78] [vI 1] M _
                refine wq_if_eq (pc := 98) (tgt := 118) dD_move_98 (by decide) (fun q => absurd q (by decide)) (fun _ => ?_)
                refine wq_iload (pc := 101) dD_move_101 rfl ?_
                refine wq_iconst (pc := 103) dD_move_103 rfl ?_
                refine wq_aload (pc := 104) dD_move_104 rfl ?_
                refine wq_getI (pc := 106) (z := 2) dD_move_106 fO_D_320 sh_78 rfl rfl ?_
                refine wq_iload (pc := 109) dD_move_109 rfl ?_
                refine wq_isub (pc := 111) dD_move_111 ?_
                refine wq_re (x := (wr (gI M 78 2 - x5))) (y := (gI M 78 2 - x5)) (Eq.trans (wr_eq (by omega) (by omega)) (by omega)) ?_
                refine wq_callS (d' := 1) (pc := 112) (as := [vI x4, vI 0, vI (gI M 78 2 - x5)]) (rest := []) (lo' := [iI x4, iI 0, iI (gI M 78 2 - x5)]) dD_move_112 mO_D_within lS_D_65 rfl rfl rfl rfl rfl rfl ?_
                refine sp_D_within (fun c9 => ?_) (fun c9 => ?_)
                · have H := H.1 c9
                  show Wq 3 0 0 mD_move 115 [iR 0, iI 3, iI x2, iI 3, iI x4, iI x5, iR 78, iR 78] [vI 1] M _
                  obtain ⟨s10, H⟩ := H
                  refine wq_if_ne (pc := 115) (tgt := 125) dD_move_115 (by decide) (fun _ => ?_) (fun q => absurd q (by decide))
                  refine wq_aload (pc := 125) dD_move_125 rfl ?_
                  refine wq_getR (pc := 127) (z := 0) (b := 79) dD_move_127 fO_D_294 sh_78 rfl rfl (rf_78_0 hS) ?_
                  refine wq_iload_n (pc := 130) dD_move_130 rfl rfl ?_
                  refine wq_aload (pc := 131) dD_move_131 rfl ?_
                  refine wq_getR (pc := 133) (z := 0) (b := 79) dD_move_133 fO_D_294 sh_78 rfl rfl (rf_78_0 hS) ?_
                  refine wq_iload (pc := 136) dD_move_136 rfl ?_
                  refine wq_iload (pc := 138) dD_move_138 rfl ?_
                  refine wq_cpI (pc := 140) dD_move_140 aC_D_326 (Or.inl ⟨sh_79, sh_79⟩) (by decide) (by decide) s10.1 s10.2.1 s10.2.2.1 (by have := s10; omega) (by have := s10; omega) rfl ?_
                  refine wq_iload (pc := 143) dD_move_143 rfl ?_
                  refine wq_ireturn (pc := 145) dD_move_145 trivial ?_
                  exact H
                · have H := H.2 c9
                  show Wq 3 0 0 mD_move 115 [iR 0, iI 3, iI x2, iI 3, iI x4, iI x5, iR 78, iR 78] [vI 0] M _
                  refine wq_if_ne (pc := 115) (tgt := 125) dD_move_115 (by decide) (fun q => absurd q (by decide)) (fun _ => ?_)
                  refine wq_aload_n (pc := 118) dD_move_118 rfl rfl ?_
                  refine wq_ldc (pc := 119) (z := (-1000001)) dD_move_119 kO_D_69 (by decide) ?_
                  refine wq_callV (d' := 2) (pc := 121) (as := [vI (-1000001)]) (rest := []) (lo' := [iR 0, iI ((-1000001)), none]) dD_move_121 mO_D_finding lV_D_70 sh_0 (by decide) cl_10 rfl rfl rfl rfl rfl rfl ?_
                  refine sp_D_finding (k := 1) (by decide) (by decide) (by decide) hS ?_
                  show Wq 3 0 0 mD_move 124 [iR 0, iI 3, iI x2, iI 3, iI x4, iI x5, iR 78, iR 78] [vI (-1000001)] (sI M 69 1 (wr (gI M 69 1 + 1))) _
                  refine wq_ireturn (pc := 124) dD_move_124 trivial ?_
                  exact H
              · have H := H.2 c8
                show Wq 3 0 0 mD_move 98 [iR 0, iI 3, iI x2, iI 3, iI x4, iI x5, iR 78, iR 78] [vI 0] M _
                refine wq_if_eq (pc := 98) (tgt := 118) dD_move_98 (by decide) (fun _ => ?_) (fun q => absurd (by decide) q)
                refine wq_aload_n (pc := 118) dD_move_118 rfl rfl ?_
                refine wq_ldc (pc := 119) (z := (-1000001)) dD_move_119 kO_D_69 (by decide) ?_
                refine wq_callV (d' := 2) (pc := 121) (as := [vI (-1000001)]) (rest := []) (lo' := [iR 0, iI ((-1000001)), none]) dD_move_121 mO_D_finding lV_D_70 sh_0 (by decide) cl_10 rfl rfl rfl rfl rfl rfl ?_
                refine sp_D_finding (k := 1) (by decide) (by decide) (by decide) hS ?_
                show Wq 3 0 0 mD_move 124 [iR 0, iI 3, iI x2, iI 3, iI x4, iI x5, iR 78, iR 78] [vI (-1000001)] (sI M 69 1 (wr (gI M 69 1 + 1))) _
                refine wq_ireturn (pc := 124) dD_move_124 trivial ?_
                exact H
          · have H := H.2 c5
            refine wq_aload_n (pc := 73) dD_move_73 rfl rfl ?_
            refine wq_ldc (pc := 74) (z := (-1000005)) dD_move_74 kO_D_98 (by decide) ?_
            refine wq_callV (d' := 2) (pc := 76) (as := [vI (-1000005)]) (rest := []) (lo' := [iR 0, iI ((-1000005)), none]) dD_move_76 mO_D_finding lV_D_70 sh_0 (by decide) cl_10 rfl rfl rfl rfl rfl rfl ?_
            refine sp_D_finding (k := 5) (by decide) (by decide) (by decide) hS ?_
            show Wq 3 0 0 mD_move 79 [iR 0, iI 3, iI x2, iI 3, iI x4, iI x5, iR 78, iR 78] [vI (-1000005)] (sI M 69 5 (wr (gI M 69 5 + 1))) _
            refine wq_ireturn (pc := 79) dD_move_79 trivial ?_
            exact H
        · have H := H.2 c4
          refine wq_aload_n (pc := 53) dD_move_53 rfl rfl ?_
          refine wq_ldc (pc := 54) (z := (-1000002)) dD_move_54 kO_D_125 (by decide) ?_
          refine wq_callV (d' := 2) (pc := 56) (as := [vI (-1000002)]) (rest := []) (lo' := [iR 0, iI ((-1000002)), none]) dD_move_56 mO_D_finding lV_D_70 sh_0 (by decide) cl_10 rfl rfl rfl rfl rfl rfl ?_
          refine sp_D_finding (k := 2) (by decide) (by decide) (by decide) hS ?_
          show Wq 3 0 0 mD_move 59 [iR 0, iI 3, iI x2, iI 3, iI x4, iI x5, iR 78, iR 78] [vI (-1000002)] (sI M 69 2 (wr (gI M 69 2 + 1))) _
          refine wq_ireturn (pc := 59) dD_move_59 trivial ?_
          exact H
    · have H := H.2 c2
      show Wq 3 0 0 mD_move 11 [iR 0, iI 3, iI x2, iI 3, iI x4, iI x5, none, none] [vI 0] M _
      refine wq_if_ne (pc := 11) (tgt := 21) dD_move_11 (by decide) (fun q => absurd q (by decide)) (fun _ => ?_)
      refine wq_aload_n (pc := 14) dD_move_14 rfl rfl ?_
      refine wq_ldc (pc := 15) (z := (-1000001)) dD_move_15 kO_D_69 (by decide) ?_
      refine wq_callV (d' := 2) (pc := 17) (as := [vI (-1000001)]) (rest := []) (lo' := [iR 0, iI ((-1000001)), none]) dD_move_17 mO_D_finding lV_D_70 sh_0 (by decide) cl_10 rfl rfl rfl rfl rfl rfl ?_
      refine sp_D_finding (k := 1) (by decide) (by decide) (by decide) hS ?_
      show Wq 3 0 0 mD_move 20 [iR 0, iI 3, iI x2, iI 3, iI x4, iI x5, none, none] [vI (-1000001)] (sI M 69 1 (wr (gI M 69 1 + 1))) _
      refine wq_ireturn (pc := 20) dD_move_20 trivial ?_
      exact H
  · have H := H.2 c1
    show Wq 3 0 0 mD_move 4 [iR 0, iI 3, iI x2, iI 3, iI x4, iI x5, none, none] [vI 0] M _
    refine wq_if_eq (pc := 4) (tgt := 14) dD_move_4 (by decide) (fun _ => ?_) (fun q => absurd (by decide) q)
    refine wq_aload_n (pc := 14) dD_move_14 rfl rfl ?_
    refine wq_ldc (pc := 15) (z := (-1000001)) dD_move_15 kO_D_69 (by decide) ?_
    refine wq_callV (d' := 2) (pc := 17) (as := [vI (-1000001)]) (rest := []) (lo' := [iR 0, iI ((-1000001)), none]) dD_move_17 mO_D_finding lV_D_70 sh_0 (by decide) cl_10 rfl rfl rfl rfl rfl rfl ?_
    refine sp_D_finding (k := 1) (by decide) (by decide) (by decide) hS ?_
    show Wq 3 0 0 mD_move 20 [iR 0, iI 3, iI x2, iI 3, iI x4, iI x5, none, none] [vI (-1000001)] (sI M 69 1 (wr (gI M 69 1 + 1))) _
    refine wq_ireturn (pc := 20) dD_move_20 trivial ?_
    exact H
set_option maxRecDepth 20000 in
theorem B_S_renew_s3_0 {x1 x2 : Int} {M : Mm} {Q : Mm → Option Mv → Prop} (H : Wq 1 0 0 mS_renew 12 [iR 78, iI x1, iI x2, iI 0] [] (sI (sI M 78 1 x1) 78 2 x2) Q) : Wq 1 0 0 mS_renew 0 [iR 78, iI x1, iI x2, none] [] M Q := by
  refine wq_aload_n (pc := 0) dS_renew_0 rfl rfl ?_
  refine wq_iload_n (pc := 1) dS_renew_1 rfl rfl ?_
  refine wq_putI (pc := 2) (z := 1) dS_renew_2 fW_S_15 sh_78 rfl rfl ?_
  refine wq_aload_n (pc := 5) dS_renew_5 rfl rfl ?_
  refine wq_iload_n (pc := 6) dS_renew_6 rfl rfl ?_
  refine wq_putI (pc := 7) (z := 2) dS_renew_7 fW_S_19 sh_78 rfl rfl ?_
  refine wq_iconst (pc := 10) dS_renew_10 rfl ?_
  refine wq_istore_n (pc := 11) (lo' := [iR 78, iI x1, iI x2, iI 0]) dS_renew_11 rfl rfl rfl ?_
  exact H

set_option maxRecDepth 20000 in
theorem B_S_renew_s3_12 {x1 x2 x3 : Int} {M : Mm} {Q : Mm → Option Mv → Prop} (hS : RefOK M) (H : ((24 ≤ x3 → Q M none) ∧ (¬ 24 ≤ x3 → (((0 ≤ x3 ∧ x3 < 24) ∧ (-2147483648 ≤ x3 + 1 ∧ x3 + 1 < 2147483648)) ∧ Wq 1 0 0 mS_renew 12 [iR 78, iI x1, iI x2, iI (x3 + 1)] [] (sI M 79 x3 0) Q)))) : Wq 1 0 0 mS_renew 12 [iR 78, iI x1, iI x2, iI x3] [] M Q := by
  refine wq_iload_n (pc := 12) dS_renew_12 rfl rfl ?_
  refine wq_bipush (pc := 13) dS_renew_13 rfl ?_
  refine wq_icmp_ge (pc := 15) (tgt := 31) dS_renew_15 (by decide) (fun c1 => ?_) (fun c1 => ?_)
  · have H := H.1 c1
    refine wq_return (pc := 31) dS_renew_31 trivial ?_
    exact H
  · have H := H.2 c1
    obtain ⟨⟨s2, s3⟩, H⟩ := H
    refine wq_aload_n (pc := 18) dS_renew_18 rfl rfl ?_
    refine wq_getR (pc := 19) (z := 0) (b := 79) dS_renew_19 fO_S_9 sh_78 rfl rfl (rf_78_0 hS) ?_
    refine wq_iload_n (pc := 22) dS_renew_22 rfl rfl ?_
    refine wq_iconst (pc := 23) dS_renew_23 rfl ?_
    refine wq_iast (pc := 24) dS_renew_24 sh_79 (by decide) s2.1 s2.2 ?_
    refine wq_iinc (pc := 25) (lo' := [iR 78, iI x1, iI x2, iI (x3 + 1)]) dS_renew_25 rfl rfl (by rw [show wr (x3 + 1) = x3 + 1 from (Eq.trans (wr_eq (by omega) (by omega)) (by omega))]; rfl) ?_
    refine wq_goto (pc := 28) (tgt := 12) dS_renew_28 (by decide) ?_
    exact H
set_option maxRecDepth 20000 in
theorem B_S_cut_s3_0 {x1 : Int} {M : Mm} {Q : Mm → Option Mv → Prop} (H : ((¬ gI M 78 1 = 8 → ((¬ gI M 78 1 = 16 → Q M (some (vI x1))) ∧ (gI M 78 1 = 16 → Q M (some (vI (bS x1)))))) ∧ (gI M 78 1 = 8 → Q M (some (vI (bB x1)))))) : Wq 1 0 0 mS_cut 0 [iR 78, iI x1] [] M Q := by
  refine wq_aload_n (pc := 0) dS_cut_0 rfl rfl ?_
  refine wq_getI (pc := 1) (z := 1) dS_cut_1 fO_S_15 sh_78 rfl rfl ?_
  refine wq_bipush (pc := 4) dS_cut_4 rfl ?_
  refine wq_icmp_ne (pc := 6) (tgt := 12) dS_cut_6 (by decide) (fun c1 => ?_) (fun c1 => ?_)
  · have H := H.1 c1
    refine wq_aload_n (pc := 12) dS_cut_12 rfl rfl ?_
    refine wq_getI (pc := 13) (z := 1) dS_cut_13 fO_S_15 sh_78 rfl rfl ?_
    refine wq_bipush (pc := 16) dS_cut_16 rfl ?_
    refine wq_icmp_ne (pc := 18) (tgt := 26) dS_cut_18 (by decide) (fun c2 => ?_) (fun c2 => ?_)
    · have H := H.1 c2
      refine wq_iload_n (pc := 26) dS_cut_26 rfl rfl ?_
      refine wq_ireturn (pc := 27) dS_cut_27 trivial ?_
      exact H
    · have H := H.2 c2
      refine wq_iload_n (pc := 21) dS_cut_21 rfl rfl ?_
      refine wq_i2s (pc := 22) dS_cut_22 ?_
      refine wq_goto (pc := 23) (tgt := 27) dS_cut_23 (by decide) ?_
      refine wq_ireturn (pc := 27) dS_cut_27 trivial ?_
      exact H
  · have H := H.2 c1
    refine wq_iload_n (pc := 9) dS_cut_9 rfl rfl ?_
    refine wq_i2b (pc := 10) dS_cut_10 ?_
    refine wq_ireturn (pc := 11) dS_cut_11 trivial ?_
    exact H
set_option maxRecDepth 20000 in
theorem B_T_copy_k_0 {M : Mm} {Q : Mm → Option Mv → Prop} (hS : RefOK M) (H : Wq 1 0 0 mY_copy 0 [iR 31, iR 2] [] M (fun M' v => Wq 2 0 0 mT_copy 11 [iR 30, iR 1] (v.toList ++ []) M' Q)) : Wq 2 0 0 mT_copy 0 [iR 30, iR 1] [] M Q := by
  refine wq_aload_n (pc := 0) dT_copy_0 rfl rfl ?_
  refine wq_getR (pc := 1) (z := 0) (b := 31) dT_copy_1 fO_T_10 sh_30 rfl rfl (rf_30_0 hS) ?_
  refine wq_aload_n (pc := 4) dT_copy_4 rfl rfl ?_
  refine wq_getR (pc := 5) (z := 0) (b := 2) dT_copy_5 fO_T_10 sh_1 rfl rfl (rf_1_0 hS) ?_
  refine wq_callV (d' := 1) (pc := 8) (as := [vR 2]) (rest := []) (lo' := [iR 31, iR 2]) dT_copy_8 mO_Y_copy lV_T_48 sh_31 (by decide) cl_1 rfl rfl rfl rfl rfl rfl ?_
  exact H

set_option maxRecDepth 20000 in
theorem B_T_copy_k_11 {M : Mm} {Q : Mm → Option Mv → Prop} (hS : RefOK M) (H : Wq 1 0 0 mW_copy 0 [iR 34, iR 5] [] M (fun M' v => Wq 2 0 0 mT_copy 22 [iR 30, iR 1] (v.toList ++ []) M' Q)) : Wq 2 0 0 mT_copy 11 [iR 30, iR 1] [] M Q := by
  refine wq_aload_n (pc := 11) dT_copy_11 rfl rfl ?_
  refine wq_getR (pc := 12) (z := 1) (b := 34) dT_copy_12 fO_T_19 sh_30 rfl rfl (rf_30_1 hS) ?_
  refine wq_aload_n (pc := 15) dT_copy_15 rfl rfl ?_
  refine wq_getR (pc := 16) (z := 1) (b := 5) dT_copy_16 fO_T_19 sh_1 rfl rfl (rf_1_1 hS) ?_
  refine wq_callV (d' := 1) (pc := 19) (as := [vR 5]) (rest := []) (lo' := [iR 34, iR 5]) dT_copy_19 mO_W_copy lV_T_52 sh_34 (by decide) cl_9 rfl rfl rfl rfl rfl rfl ?_
  exact H

set_option maxRecDepth 20000 in
theorem B_T_copy_k_22 {M : Mm} {Q : Mm → Option Mv → Prop} (hS : RefOK M) (H : Wq 1 0 0 mE_copy 0 [iR 41, iR 12] [] M (fun M' v => Wq 2 0 0 mT_copy 33 [iR 30, iR 1] (v.toList ++ []) M' Q)) : Wq 2 0 0 mT_copy 22 [iR 30, iR 1] [] M Q := by
  refine wq_aload_n (pc := 22) dT_copy_22 rfl rfl ?_
  refine wq_getR (pc := 23) (z := 2) (b := 41) dT_copy_23 fO_T_26 sh_30 rfl rfl (rf_30_2 hS) ?_
  refine wq_aload_n (pc := 26) dT_copy_26 rfl rfl ?_
  refine wq_getR (pc := 27) (z := 2) (b := 12) dT_copy_27 fO_T_26 sh_1 rfl rfl (rf_1_2 hS) ?_
  refine wq_callV (d' := 1) (pc := 30) (as := [vR 12]) (rest := []) (lo' := [iR 41, iR 12]) dT_copy_30 mO_E_copy lV_T_55 sh_41 (by decide) cl_2 rfl rfl rfl rfl rfl rfl ?_
  exact H

set_option maxRecDepth 20000 in
theorem B_T_copy_k_33 {M : Mm} {Q : Mm → Option Mv → Prop} (hS : RefOK M) (H : Wq 1 0 0 mC_copy 0 [iR 49, iR 20] [] M (fun M' v => Wq 2 0 0 mT_copy 44 [iR 30, iR 1] (v.toList ++ []) M' Q)) : Wq 2 0 0 mT_copy 33 [iR 30, iR 1] [] M Q := by
  refine wq_aload_n (pc := 33) dT_copy_33 rfl rfl ?_
  refine wq_getR (pc := 34) (z := 3) (b := 49) dT_copy_34 fO_T_33 sh_30 rfl rfl (rf_30_3 hS) ?_
  refine wq_aload_n (pc := 37) dT_copy_37 rfl rfl ?_
  refine wq_getR (pc := 38) (z := 3) (b := 20) dT_copy_38 fO_T_33 sh_1 rfl rfl (rf_1_3 hS) ?_
  refine wq_callV (d' := 1) (pc := 41) (as := [vR 20]) (rest := []) (lo' := [iR 49, iR 20]) dT_copy_41 mO_C_copy lV_T_58 sh_49 (by decide) cl_0 rfl rfl rfl rfl rfl rfl ?_
  exact H

set_option maxRecDepth 20000 in
theorem B_T_copy_k_44 {M : Mm} {Q : Mm → Option Mv → Prop} (hS : RefOK M) (H : Wq 1 0 0 mH_copy 0 [iR 55, iR 26] [] M (fun M' v => Wq 2 0 0 mT_copy 55 [iR 30, iR 1] (v.toList ++ []) M' Q)) : Wq 2 0 0 mT_copy 44 [iR 30, iR 1] [] M Q := by
  refine wq_aload_n (pc := 44) dT_copy_44 rfl rfl ?_
  refine wq_getR (pc := 45) (z := 4) (b := 55) dT_copy_45 fO_T_40 sh_30 rfl rfl (rf_30_4 hS) ?_
  refine wq_aload_n (pc := 48) dT_copy_48 rfl rfl ?_
  refine wq_getR (pc := 49) (z := 4) (b := 26) dT_copy_49 fO_T_40 sh_1 rfl rfl (rf_1_4 hS) ?_
  refine wq_callV (d' := 1) (pc := 52) (as := [vR 26]) (rest := []) (lo' := [iR 55, iR 26]) dT_copy_52 mO_H_copy lV_T_61 sh_55 (by decide) cl_3 rfl rfl rfl rfl rfl rfl ?_
  exact H

set_option maxRecDepth 20000 in
theorem B_T_copy_k_55 {M : Mm} {Q : Mm → Option Mv → Prop} (H : Q (sI M 30 5 (gI M 1 5)) none) : Wq 2 0 0 mT_copy 55 [iR 30, iR 1] [] M Q := by
  refine wq_aload_n (pc := 55) dT_copy_55 rfl rfl ?_
  refine wq_aload_n (pc := 56) dT_copy_56 rfl rfl ?_
  refine wq_getI (pc := 57) (z := 5) dT_copy_57 fO_T_44 sh_1 rfl rfl ?_
  refine wq_putI (pc := 60) (z := 5) dT_copy_60 fW_T_44 sh_30 rfl rfl ?_
  refine wq_return (pc := 63) dT_copy_63 trivial ?_
  exact H
set_option maxRecDepth 20000 in
theorem B_Y_copy_k_0 {M : Mm} {Q : Mm → Option Mv → Prop} (hS : RefOK M) (H : Q (sI (sI (sI (cI (cL M 3 0 32 0 15) 4 0 33 0 901) 31 2 (gI M 2 2)) 31 3 (gI M 2 3)) 31 4 (gI M 2 4)) none) : Wq 1 0 0 mY_copy 0 [iR 31, iR 2] [] M Q := by
  refine wq_aload_n (pc := 0) dY_copy_0 rfl rfl ?_
  refine wq_getR (pc := 1) (z := 0) (b := 3) dY_copy_1 fO_Y_9 sh_2 rfl rfl (rf_2_0 hS) ?_
  refine wq_iconst (pc := 4) dY_copy_4 rfl ?_
  refine wq_aload_n (pc := 5) dY_copy_5 rfl rfl ?_
  refine wq_getR (pc := 6) (z := 0) (b := 32) dY_copy_6 fO_Y_9 sh_31 rfl rfl (rf_31_0 hS) ?_
  refine wq_iconst (pc := 9) dY_copy_9 rfl ?_
  refine wq_bipush (pc := 10) dY_copy_10 rfl ?_
  refine wq_cpL (pc := 12) dY_copy_12 aC_Y_39 sh_3 sh_32 (by decide) (by decide) (by decide) (by decide) (by decide) rfl ?_
  refine wq_aload_n (pc := 15) dY_copy_15 rfl rfl ?_
  refine wq_getR (pc := 16) (z := 1) (b := 4) dY_copy_16 fO_Y_15 sh_2 rfl rfl (rf_2_1 hS) ?_
  refine wq_iconst (pc := 19) dY_copy_19 rfl ?_
  refine wq_aload_n (pc := 20) dY_copy_20 rfl rfl ?_
  refine wq_getR (pc := 21) (z := 1) (b := 33) dY_copy_21 fO_Y_15 sh_31 rfl rfl (rf_31_1 hS) ?_
  refine wq_iconst (pc := 24) dY_copy_24 rfl ?_
  refine wq_sipush (pc := 25) dY_copy_25 rfl ?_
  refine wq_cpI (pc := 28) dY_copy_28 aC_Y_39 (Or.inl ⟨sh_4, sh_33⟩) (by decide) (by decide) (by decide) (by decide) (by decide) (by decide) (by decide) rfl ?_
  refine wq_aload_n (pc := 31) dY_copy_31 rfl rfl ?_
  refine wq_aload_n (pc := 32) dY_copy_32 rfl rfl ?_
  refine wq_getI (pc := 33) (z := 2) dY_copy_33 fO_Y_19 sh_2 rfl rfl ?_
  refine wq_re (x := (gI (cI (cL M 3 0 32 0 15) 4 0 33 0 901) 2 2)) (y := (gI M 2 2)) rfl ?_
  refine wq_putI (pc := 36) (z := 2) dY_copy_36 fW_Y_19 sh_31 rfl rfl ?_
  refine wq_aload_n (pc := 39) dY_copy_39 rfl rfl ?_
  refine wq_aload_n (pc := 40) dY_copy_40 rfl rfl ?_
  refine wq_getI (pc := 41) (z := 3) dY_copy_41 fO_Y_23 sh_2 rfl rfl ?_
  refine wq_re (x := (gI (sI (cI (cL M 3 0 32 0 15) 4 0 33 0 901) 31 2 (gI M 2 2)) 2 3)) (y := (gI M 2 3)) rfl ?_
  refine wq_putI (pc := 44) (z := 3) dY_copy_44 fW_Y_23 sh_31 rfl rfl ?_
  refine wq_aload_n (pc := 47) dY_copy_47 rfl rfl ?_
  refine wq_aload_n (pc := 48) dY_copy_48 rfl rfl ?_
  refine wq_getI (pc := 49) (z := 4) dY_copy_49 fO_Y_32 sh_2 rfl rfl ?_
  refine wq_re (x := (gI (sI (sI (cI (cL M 3 0 32 0 15) 4 0 33 0 901) 31 2 (gI M 2 2)) 31 3 (gI M 2 3)) 2 4)) (y := (gI M 2 4)) rfl ?_
  refine wq_putI (pc := 52) (z := 4) dY_copy_52 fW_Y_32 sh_31 rfl rfl ?_
  refine wq_return (pc := 55) dY_copy_55 trivial ?_
  exact H
set_option maxRecDepth 20000 in
theorem B_W_copy_k_0 {M : Mm} {Q : Mm → Option Mv → Prop} (hS : RefOK M) (H : Q (sI (sI (cI (cI (cI (cI (cI (cI M 6 0 35 0 16) 7 0 36 0 16) 8 0 37 0 16) 9 0 38 0 16) 10 0 39 0 256) 11 0 40 0 16) 34 6 (gI M 5 6)) 34 7 (gI M 5 7)) none) : Wq 1 0 0 mW_copy 0 [iR 34, iR 5] [] M Q := by
  refine wq_aload_n (pc := 0) dW_copy_0 rfl rfl ?_
  refine wq_getR (pc := 1) (z := 0) (b := 6) dW_copy_1 fO_W_9 sh_5 rfl rfl (rf_5_0 hS) ?_
  refine wq_iconst (pc := 4) dW_copy_4 rfl ?_
  refine wq_aload_n (pc := 5) dW_copy_5 rfl rfl ?_
  refine wq_getR (pc := 6) (z := 0) (b := 35) dW_copy_6 fO_W_9 sh_34 rfl rfl (rf_34_0 hS) ?_
  refine wq_iconst (pc := 9) dW_copy_9 rfl ?_
  refine wq_bipush (pc := 10) dW_copy_10 rfl ?_
  refine wq_cpI (pc := 12) dW_copy_12 aC_W_37 (Or.inl ⟨sh_6, sh_35⟩) (by decide) (by decide) (by decide) (by decide) (by decide) (by decide) (by decide) rfl ?_
  refine wq_aload_n (pc := 15) dW_copy_15 rfl rfl ?_
  refine wq_getR (pc := 16) (z := 1) (b := 7) dW_copy_16 fO_W_15 sh_5 rfl rfl (rf_5_1 hS) ?_
  refine wq_iconst (pc := 19) dW_copy_19 rfl ?_
  refine wq_aload_n (pc := 20) dW_copy_20 rfl rfl ?_
  refine wq_getR (pc := 21) (z := 1) (b := 36) dW_copy_21 fO_W_15 sh_34 rfl rfl (rf_34_1 hS) ?_
  refine wq_iconst (pc := 24) dW_copy_24 rfl ?_
  refine wq_bipush (pc := 25) dW_copy_25 rfl ?_
  refine wq_cpI (pc := 27) dW_copy_27 aC_W_37 (Or.inl ⟨sh_7, sh_36⟩) (by decide) (by decide) (by decide) (by decide) (by decide) (by decide) (by decide) rfl ?_
  refine wq_aload_n (pc := 30) dW_copy_30 rfl rfl ?_
  refine wq_getR (pc := 31) (z := 2) (b := 8) dW_copy_31 fO_W_18 sh_5 rfl rfl (rf_5_2 hS) ?_
  refine wq_iconst (pc := 34) dW_copy_34 rfl ?_
  refine wq_aload_n (pc := 35) dW_copy_35 rfl rfl ?_
  refine wq_getR (pc := 36) (z := 2) (b := 37) dW_copy_36 fO_W_18 sh_34 rfl rfl (rf_34_2 hS) ?_
  refine wq_iconst (pc := 39) dW_copy_39 rfl ?_
  refine wq_bipush (pc := 40) dW_copy_40 rfl ?_
  refine wq_cpI (pc := 42) dW_copy_42 aC_W_37 (Or.inl ⟨sh_8, sh_37⟩) (by decide) (by decide) (by decide) (by decide) (by decide) (by decide) (by decide) rfl ?_
  refine wq_aload_n (pc := 45) dW_copy_45 rfl rfl ?_
  refine wq_getR (pc := 46) (z := 3) (b := 9) dW_copy_46 fO_W_21 sh_5 rfl rfl (rf_5_3 hS) ?_
  refine wq_iconst (pc := 49) dW_copy_49 rfl ?_
  refine wq_aload_n (pc := 50) dW_copy_50 rfl rfl ?_
  refine wq_getR (pc := 51) (z := 3) (b := 38) dW_copy_51 fO_W_21 sh_34 rfl rfl (rf_34_3 hS) ?_
  refine wq_iconst (pc := 54) dW_copy_54 rfl ?_
  refine wq_bipush (pc := 55) dW_copy_55 rfl ?_
  refine wq_cpI (pc := 57) dW_copy_57 aC_W_37 (Or.inl ⟨sh_9, sh_38⟩) (by decide) (by decide) (by decide) (by decide) (by decide) (by decide) (by decide) rfl ?_
  refine wq_aload_n (pc := 60) dW_copy_60 rfl rfl ?_
  refine wq_getR (pc := 61) (z := 4) (b := 10) dW_copy_61 fO_W_24 sh_5 rfl rfl (rf_5_4 hS) ?_
  refine wq_iconst (pc := 64) dW_copy_64 rfl ?_
  refine wq_aload_n (pc := 65) dW_copy_65 rfl rfl ?_
  refine wq_getR (pc := 66) (z := 4) (b := 39) dW_copy_66 fO_W_24 sh_34 rfl rfl (rf_34_4 hS) ?_
  refine wq_iconst (pc := 69) dW_copy_69 rfl ?_
  refine wq_sipush (pc := 70) dW_copy_70 rfl ?_
  refine wq_cpI (pc := 73) dW_copy_73 aC_W_37 (Or.inl ⟨sh_10, sh_39⟩) (by decide) (by decide) (by decide) (by decide) (by decide) (by decide) (by decide) rfl ?_
  refine wq_aload_n (pc := 76) dW_copy_76 rfl rfl ?_
  refine wq_getR (pc := 77) (z := 5) (b := 11) dW_copy_77 fO_W_27 sh_5 rfl rfl (rf_5_5 hS) ?_
  refine wq_iconst (pc := 80) dW_copy_80 rfl ?_
  refine wq_aload_n (pc := 81) dW_copy_81 rfl rfl ?_
  refine wq_getR (pc := 82) (z := 5) (b := 40) dW_copy_82 fO_W_27 sh_34 rfl rfl (rf_34_5 hS) ?_
  refine wq_iconst (pc := 85) dW_copy_85 rfl ?_
  refine wq_bipush (pc := 86) dW_copy_86 rfl ?_
  refine wq_cpI (pc := 88) dW_copy_88 aC_W_37 (Or.inl ⟨sh_11, sh_40⟩) (by decide) (by decide) (by decide) (by decide) (by decide) (by decide) (by decide) rfl ?_
  refine wq_aload_n (pc := 91) dW_copy_91 rfl rfl ?_
  refine wq_aload_n (pc := 92) dW_copy_92 rfl rfl ?_
  refine wq_getI (pc := 93) (z := 6) dW_copy_93 fO_W_30 sh_5 rfl rfl ?_
  refine wq_re (x := (gI (cI (cI (cI (cI (cI (cI M 6 0 35 0 16) 7 0 36 0 16) 8 0 37 0 16) 9 0 38 0 16) 10 0 39 0 256) 11 0 40 0 16) 5 6)) (y := (gI M 5 6)) rfl ?_
  refine wq_putI (pc := 96) (z := 6) dW_copy_96 fW_W_30 sh_34 rfl rfl ?_
  refine wq_aload_n (pc := 99) dW_copy_99 rfl rfl ?_
  refine wq_aload_n (pc := 100) dW_copy_100 rfl rfl ?_
  refine wq_getI (pc := 101) (z := 7) dW_copy_101 fO_W_34 sh_5 rfl rfl ?_
  refine wq_re (x := (gI (sI (cI (cI (cI (cI (cI (cI M 6 0 35 0 16) 7 0 36 0 16) 8 0 37 0 16) 9 0 38 0 16) 10 0 39 0 256) 11 0 40 0 16) 34 6 (gI M 5 6)) 5 7)) (y := (gI M 5 7)) rfl ?_
  refine wq_putI (pc := 104) (z := 7) dW_copy_104 fW_W_34 sh_34 rfl rfl ?_
  refine wq_return (pc := 107) dW_copy_107 trivial ?_
  exact H
set_option maxRecDepth 20000 in
theorem B_E_copy_k_0 {M : Mm} {Q : Mm → Option Mv → Prop} (hS : RefOK M) (H : Q (sI (cI (cI (cI (cI (cI (cI (cI M 13 0 42 0 20) 14 0 43 0 20) 15 0 44 0 20) 16 0 45 0 20) 17 0 46 0 20) 18 0 47 0 20) 19 0 48 0 20) 41 7 (gI M 12 7)) none) : Wq 1 0 0 mE_copy 0 [iR 41, iR 12] [] M Q := by
  refine wq_aload_n (pc := 0) dE_copy_0 rfl rfl ?_
  refine wq_getR (pc := 1) (z := 0) (b := 13) dE_copy_1 fO_E_9 sh_12 rfl rfl (rf_12_0 hS) ?_
  refine wq_iconst (pc := 4) dE_copy_4 rfl ?_
  refine wq_aload_n (pc := 5) dE_copy_5 rfl rfl ?_
  refine wq_getR (pc := 6) (z := 0) (b := 42) dE_copy_6 fO_E_9 sh_41 rfl rfl (rf_41_0 hS) ?_
  refine wq_iconst (pc := 9) dE_copy_9 rfl ?_
  refine wq_bipush (pc := 10) dE_copy_10 rfl ?_
  refine wq_cpI (pc := 12) dE_copy_12 aC_E_37 (Or.inl ⟨sh_13, sh_42⟩) (by decide) (by decide) (by decide) (by decide) (by decide) (by decide) (by decide) rfl ?_
  refine wq_aload_n (pc := 15) dE_copy_15 rfl rfl ?_
  refine wq_getR (pc := 16) (z := 1) (b := 14) dE_copy_16 fO_E_15 sh_12 rfl rfl (rf_12_1 hS) ?_
  refine wq_iconst (pc := 19) dE_copy_19 rfl ?_
  refine wq_aload_n (pc := 20) dE_copy_20 rfl rfl ?_
  refine wq_getR (pc := 21) (z := 1) (b := 43) dE_copy_21 fO_E_15 sh_41 rfl rfl (rf_41_1 hS) ?_
  refine wq_iconst (pc := 24) dE_copy_24 rfl ?_
  refine wq_bipush (pc := 25) dE_copy_25 rfl ?_
  refine wq_cpI (pc := 27) dE_copy_27 aC_E_37 (Or.inl ⟨sh_14, sh_43⟩) (by decide) (by decide) (by decide) (by decide) (by decide) (by decide) (by decide) rfl ?_
  refine wq_aload_n (pc := 30) dE_copy_30 rfl rfl ?_
  refine wq_getR (pc := 31) (z := 2) (b := 15) dE_copy_31 fO_E_18 sh_12 rfl rfl (rf_12_2 hS) ?_
  refine wq_iconst (pc := 34) dE_copy_34 rfl ?_
  refine wq_aload_n (pc := 35) dE_copy_35 rfl rfl ?_
  refine wq_getR (pc := 36) (z := 2) (b := 44) dE_copy_36 fO_E_18 sh_41 rfl rfl (rf_41_2 hS) ?_
  refine wq_iconst (pc := 39) dE_copy_39 rfl ?_
  refine wq_bipush (pc := 40) dE_copy_40 rfl ?_
  refine wq_cpI (pc := 42) dE_copy_42 aC_E_37 (Or.inl ⟨sh_15, sh_44⟩) (by decide) (by decide) (by decide) (by decide) (by decide) (by decide) (by decide) rfl ?_
  refine wq_aload_n (pc := 45) dE_copy_45 rfl rfl ?_
  refine wq_getR (pc := 46) (z := 3) (b := 16) dE_copy_46 fO_E_21 sh_12 rfl rfl (rf_12_3 hS) ?_
  refine wq_iconst (pc := 49) dE_copy_49 rfl ?_
  refine wq_aload_n (pc := 50) dE_copy_50 rfl rfl ?_
  refine wq_getR (pc := 51) (z := 3) (b := 45) dE_copy_51 fO_E_21 sh_41 rfl rfl (rf_41_3 hS) ?_
  refine wq_iconst (pc := 54) dE_copy_54 rfl ?_
  refine wq_bipush (pc := 55) dE_copy_55 rfl ?_
  refine wq_cpI (pc := 57) dE_copy_57 aC_E_37 (Or.inl ⟨sh_16, sh_45⟩) (by decide) (by decide) (by decide) (by decide) (by decide) (by decide) (by decide) rfl ?_
  refine wq_aload_n (pc := 60) dE_copy_60 rfl rfl ?_
  refine wq_getR (pc := 61) (z := 4) (b := 17) dE_copy_61 fO_E_24 sh_12 rfl rfl (rf_12_4 hS) ?_
  refine wq_iconst (pc := 64) dE_copy_64 rfl ?_
  refine wq_aload_n (pc := 65) dE_copy_65 rfl rfl ?_
  refine wq_getR (pc := 66) (z := 4) (b := 46) dE_copy_66 fO_E_24 sh_41 rfl rfl (rf_41_4 hS) ?_
  refine wq_iconst (pc := 69) dE_copy_69 rfl ?_
  refine wq_bipush (pc := 70) dE_copy_70 rfl ?_
  refine wq_cpI (pc := 72) dE_copy_72 aC_E_37 (Or.inl ⟨sh_17, sh_46⟩) (by decide) (by decide) (by decide) (by decide) (by decide) (by decide) (by decide) rfl ?_
  refine wq_aload_n (pc := 75) dE_copy_75 rfl rfl ?_
  refine wq_getR (pc := 76) (z := 5) (b := 18) dE_copy_76 fO_E_27 sh_12 rfl rfl (rf_12_5 hS) ?_
  refine wq_iconst (pc := 79) dE_copy_79 rfl ?_
  refine wq_aload_n (pc := 80) dE_copy_80 rfl rfl ?_
  refine wq_getR (pc := 81) (z := 5) (b := 47) dE_copy_81 fO_E_27 sh_41 rfl rfl (rf_41_5 hS) ?_
  refine wq_iconst (pc := 84) dE_copy_84 rfl ?_
  refine wq_bipush (pc := 85) dE_copy_85 rfl ?_
  refine wq_cpI (pc := 87) dE_copy_87 aC_E_37 (Or.inl ⟨sh_18, sh_47⟩) (by decide) (by decide) (by decide) (by decide) (by decide) (by decide) (by decide) rfl ?_
  refine wq_aload_n (pc := 90) dE_copy_90 rfl rfl ?_
  refine wq_getR (pc := 91) (z := 6) (b := 19) dE_copy_91 fO_E_30 sh_12 rfl rfl (rf_12_6 hS) ?_
  refine wq_iconst (pc := 94) dE_copy_94 rfl ?_
  refine wq_aload_n (pc := 95) dE_copy_95 rfl rfl ?_
  refine wq_getR (pc := 96) (z := 6) (b := 48) dE_copy_96 fO_E_30 sh_41 rfl rfl (rf_41_6 hS) ?_
  refine wq_iconst (pc := 99) dE_copy_99 rfl ?_
  refine wq_bipush (pc := 100) dE_copy_100 rfl ?_
  refine wq_cpI (pc := 102) dE_copy_102 aC_E_37 (Or.inl ⟨sh_19, sh_48⟩) (by decide) (by decide) (by decide) (by decide) (by decide) (by decide) (by decide) rfl ?_
  refine wq_aload_n (pc := 105) dE_copy_105 rfl rfl ?_
  refine wq_aload_n (pc := 106) dE_copy_106 rfl rfl ?_
  refine wq_getI (pc := 107) (z := 7) dE_copy_107 fO_E_33 sh_12 rfl rfl ?_
  refine wq_re (x := (gI (cI (cI (cI (cI (cI (cI (cI M 13 0 42 0 20) 14 0 43 0 20) 15 0 44 0 20) 16 0 45 0 20) 17 0 46 0 20) 18 0 47 0 20) 19 0 48 0 20) 12 7)) (y := (gI M 12 7)) rfl ?_
  refine wq_putI (pc := 110) (z := 7) dE_copy_110 fW_E_33 sh_41 rfl rfl ?_
  refine wq_return (pc := 113) dE_copy_113 trivial ?_
  exact H
set_option maxRecDepth 20000 in
theorem B_C_copy_k_0 {M : Mm} {Q : Mm → Option Mv → Prop} (hS : RefOK M) (H : Q (sI (sI (cI (cI (cI (cI (cI M 21 0 50 0 60) 22 0 51 0 600) 23 0 52 0 10) 24 0 53 0 10) 25 0 54 0 10) 49 5 (gI M 20 5)) 49 6 (gI M 20 6)) none) : Wq 1 0 0 mC_copy 0 [iR 49, iR 20] [] M Q := by
  refine wq_aload_n (pc := 0) dC_copy_0 rfl rfl ?_
  refine wq_getR (pc := 1) (z := 0) (b := 21) dC_copy_1 fO_C_9 sh_20 rfl rfl (rf_20_0 hS) ?_
  refine wq_iconst (pc := 4) dC_copy_4 rfl ?_
  refine wq_aload_n (pc := 5) dC_copy_5 rfl rfl ?_
  refine wq_getR (pc := 6) (z := 0) (b := 50) dC_copy_6 fO_C_9 sh_49 rfl rfl (rf_49_0 hS) ?_
  refine wq_iconst (pc := 9) dC_copy_9 rfl ?_
  refine wq_bipush (pc := 10) dC_copy_10 rfl ?_
  refine wq_cpI (pc := 12) dC_copy_12 aC_C_35 (Or.inr ⟨sh_21, sh_50⟩) (by decide) (by decide) (by decide) (by decide) (by decide) (by decide) (by decide) rfl ?_
  refine wq_aload_n (pc := 15) dC_copy_15 rfl rfl ?_
  refine wq_getR (pc := 16) (z := 1) (b := 22) dC_copy_16 fO_C_15 sh_20 rfl rfl (rf_20_1 hS) ?_
  refine wq_iconst (pc := 19) dC_copy_19 rfl ?_
  refine wq_aload_n (pc := 20) dC_copy_20 rfl rfl ?_
  refine wq_getR (pc := 21) (z := 1) (b := 51) dC_copy_21 fO_C_15 sh_49 rfl rfl (rf_49_1 hS) ?_
  refine wq_iconst (pc := 24) dC_copy_24 rfl ?_
  refine wq_sipush (pc := 25) dC_copy_25 rfl ?_
  refine wq_cpI (pc := 28) dC_copy_28 aC_C_35 (Or.inr ⟨sh_22, sh_51⟩) (by decide) (by decide) (by decide) (by decide) (by decide) (by decide) (by decide) rfl ?_
  refine wq_aload_n (pc := 31) dC_copy_31 rfl rfl ?_
  refine wq_getR (pc := 32) (z := 2) (b := 23) dC_copy_32 fO_C_18 sh_20 rfl rfl (rf_20_2 hS) ?_
  refine wq_iconst (pc := 35) dC_copy_35 rfl ?_
  refine wq_aload_n (pc := 36) dC_copy_36 rfl rfl ?_
  refine wq_getR (pc := 37) (z := 2) (b := 52) dC_copy_37 fO_C_18 sh_49 rfl rfl (rf_49_2 hS) ?_
  refine wq_iconst (pc := 40) dC_copy_40 rfl ?_
  refine wq_bipush (pc := 41) dC_copy_41 rfl ?_
  refine wq_cpI (pc := 43) dC_copy_43 aC_C_35 (Or.inl ⟨sh_23, sh_52⟩) (by decide) (by decide) (by decide) (by decide) (by decide) (by decide) (by decide) rfl ?_
  refine wq_aload_n (pc := 46) dC_copy_46 rfl rfl ?_
  refine wq_getR (pc := 47) (z := 3) (b := 24) dC_copy_47 fO_C_22 sh_20 rfl rfl (rf_20_3 hS) ?_
  refine wq_iconst (pc := 50) dC_copy_50 rfl ?_
  refine wq_aload_n (pc := 51) dC_copy_51 rfl rfl ?_
  refine wq_getR (pc := 52) (z := 3) (b := 53) dC_copy_52 fO_C_22 sh_49 rfl rfl (rf_49_3 hS) ?_
  refine wq_iconst (pc := 55) dC_copy_55 rfl ?_
  refine wq_bipush (pc := 56) dC_copy_56 rfl ?_
  refine wq_cpI (pc := 58) dC_copy_58 aC_C_35 (Or.inl ⟨sh_24, sh_53⟩) (by decide) (by decide) (by decide) (by decide) (by decide) (by decide) (by decide) rfl ?_
  refine wq_aload_n (pc := 61) dC_copy_61 rfl rfl ?_
  refine wq_getR (pc := 62) (z := 4) (b := 25) dC_copy_62 fO_C_25 sh_20 rfl rfl (rf_20_4 hS) ?_
  refine wq_iconst (pc := 65) dC_copy_65 rfl ?_
  refine wq_aload_n (pc := 66) dC_copy_66 rfl rfl ?_
  refine wq_getR (pc := 67) (z := 4) (b := 54) dC_copy_67 fO_C_25 sh_49 rfl rfl (rf_49_4 hS) ?_
  refine wq_iconst (pc := 70) dC_copy_70 rfl ?_
  refine wq_bipush (pc := 71) dC_copy_71 rfl ?_
  refine wq_cpI (pc := 73) dC_copy_73 aC_C_35 (Or.inl ⟨sh_25, sh_54⟩) (by decide) (by decide) (by decide) (by decide) (by decide) (by decide) (by decide) rfl ?_
  refine wq_aload_n (pc := 76) dC_copy_76 rfl rfl ?_
  refine wq_aload_n (pc := 77) dC_copy_77 rfl rfl ?_
  refine wq_getI (pc := 78) (z := 5) dC_copy_78 fO_C_28 sh_20 rfl rfl ?_
  refine wq_re (x := (gI (cI (cI (cI (cI (cI M 21 0 50 0 60) 22 0 51 0 600) 23 0 52 0 10) 24 0 53 0 10) 25 0 54 0 10) 20 5)) (y := (gI M 20 5)) rfl ?_
  refine wq_putI (pc := 81) (z := 5) dC_copy_81 fW_C_28 sh_49 rfl rfl ?_
  refine wq_aload_n (pc := 84) dC_copy_84 rfl rfl ?_
  refine wq_aload_n (pc := 85) dC_copy_85 rfl rfl ?_
  refine wq_getI (pc := 86) (z := 6) dC_copy_86 fO_C_32 sh_20 rfl rfl ?_
  refine wq_re (x := (gI (sI (cI (cI (cI (cI (cI M 21 0 50 0 60) 22 0 51 0 600) 23 0 52 0 10) 24 0 53 0 10) 25 0 54 0 10) 49 5 (gI M 20 5)) 20 6)) (y := (gI M 20 6)) rfl ?_
  refine wq_putI (pc := 89) (z := 6) dC_copy_89 fW_C_32 sh_49 rfl rfl ?_
  refine wq_return (pc := 92) dC_copy_92 trivial ?_
  exact H
set_option maxRecDepth 20000 in
theorem B_H_copy_k_0 {M : Mm} {Q : Mm → Option Mv → Prop} (hS : RefOK M) (H : Q (sI (cI (cI (cI M 27 0 56 0 5) 28 0 57 0 5) 29 0 58 0 5) 55 3 (gI M 26 3)) none) : Wq 1 0 0 mH_copy 0 [iR 55, iR 26] [] M Q := by
  refine wq_aload_n (pc := 0) dH_copy_0 rfl rfl ?_
  refine wq_getR (pc := 1) (z := 0) (b := 27) dH_copy_1 fO_H_9 sh_26 rfl rfl (rf_26_0 hS) ?_
  refine wq_iconst (pc := 4) dH_copy_4 rfl ?_
  refine wq_aload_n (pc := 5) dH_copy_5 rfl rfl ?_
  refine wq_getR (pc := 6) (z := 0) (b := 56) dH_copy_6 fO_H_9 sh_55 rfl rfl (rf_55_0 hS) ?_
  refine wq_iconst (pc := 9) dH_copy_9 rfl ?_
  refine wq_iconst (pc := 10) dH_copy_10 rfl ?_
  refine wq_cpI (pc := 11) dH_copy_11 aC_H_25 (Or.inl ⟨sh_27, sh_56⟩) (by decide) (by decide) (by decide) (by decide) (by decide) (by decide) (by decide) rfl ?_
  refine wq_aload_n (pc := 14) dH_copy_14 rfl rfl ?_
  refine wq_getR (pc := 15) (z := 1) (b := 28) dH_copy_15 fO_H_15 sh_26 rfl rfl (rf_26_1 hS) ?_
  refine wq_iconst (pc := 18) dH_copy_18 rfl ?_
  refine wq_aload_n (pc := 19) dH_copy_19 rfl rfl ?_
  refine wq_getR (pc := 20) (z := 1) (b := 57) dH_copy_20 fO_H_15 sh_55 rfl rfl (rf_55_1 hS) ?_
  refine wq_iconst (pc := 23) dH_copy_23 rfl ?_
  refine wq_iconst (pc := 24) dH_copy_24 rfl ?_
  refine wq_cpI (pc := 25) dH_copy_25 aC_H_25 (Or.inl ⟨sh_28, sh_57⟩) (by decide) (by decide) (by decide) (by decide) (by decide) (by decide) (by decide) rfl ?_
  refine wq_aload_n (pc := 28) dH_copy_28 rfl rfl ?_
  refine wq_getR (pc := 29) (z := 2) (b := 29) dH_copy_29 fO_H_18 sh_26 rfl rfl (rf_26_2 hS) ?_
  refine wq_iconst (pc := 32) dH_copy_32 rfl ?_
  refine wq_aload_n (pc := 33) dH_copy_33 rfl rfl ?_
  refine wq_getR (pc := 34) (z := 2) (b := 58) dH_copy_34 fO_H_18 sh_55 rfl rfl (rf_55_2 hS) ?_
  refine wq_iconst (pc := 37) dH_copy_37 rfl ?_
  refine wq_iconst (pc := 38) dH_copy_38 rfl ?_
  refine wq_cpI (pc := 39) dH_copy_39 aC_H_25 (Or.inl ⟨sh_29, sh_58⟩) (by decide) (by decide) (by decide) (by decide) (by decide) (by decide) (by decide) rfl ?_
  refine wq_aload_n (pc := 42) dH_copy_42 rfl rfl ?_
  refine wq_aload_n (pc := 43) dH_copy_43 rfl rfl ?_
  refine wq_getI (pc := 44) (z := 3) dH_copy_44 fO_H_21 sh_26 rfl rfl ?_
  refine wq_re (x := (gI (cI (cI (cI M 27 0 56 0 5) 28 0 57 0 5) 29 0 58 0 5) 26 3)) (y := (gI M 26 3)) rfl ?_
  refine wq_putI (pc := 47) (z := 3) dH_copy_47 fW_H_21 sh_55 rfl rfl ?_
  refine wq_return (pc := 50) dH_copy_50 trivial ?_
  exact H
set_option maxRecDepth 20000 in
theorem B_T_copy_r_0 {M : Mm} {Q : Mm → Option Mv → Prop} (hS : RefOK M) (H : Wq 1 0 0 mY_copy 0 [iR 2, iR 31] [] M (fun M' v => Wq 2 0 0 mT_copy 11 [iR 1, iR 30] (v.toList ++ []) M' Q)) : Wq 2 0 0 mT_copy 0 [iR 1, iR 30] [] M Q := by
  refine wq_aload_n (pc := 0) dT_copy_0 rfl rfl ?_
  refine wq_getR (pc := 1) (z := 0) (b := 2) dT_copy_1 fO_T_10 sh_1 rfl rfl (rf_1_0 hS) ?_
  refine wq_aload_n (pc := 4) dT_copy_4 rfl rfl ?_
  refine wq_getR (pc := 5) (z := 0) (b := 31) dT_copy_5 fO_T_10 sh_30 rfl rfl (rf_30_0 hS) ?_
  refine wq_callV (d' := 1) (pc := 8) (as := [vR 31]) (rest := []) (lo' := [iR 2, iR 31]) dT_copy_8 mO_Y_copy lV_T_48 sh_2 (by decide) cl_1 rfl rfl rfl rfl rfl rfl ?_
  exact H

set_option maxRecDepth 20000 in
theorem B_T_copy_r_11 {M : Mm} {Q : Mm → Option Mv → Prop} (hS : RefOK M) (H : Wq 1 0 0 mW_copy 0 [iR 5, iR 34] [] M (fun M' v => Wq 2 0 0 mT_copy 22 [iR 1, iR 30] (v.toList ++ []) M' Q)) : Wq 2 0 0 mT_copy 11 [iR 1, iR 30] [] M Q := by
  refine wq_aload_n (pc := 11) dT_copy_11 rfl rfl ?_
  refine wq_getR (pc := 12) (z := 1) (b := 5) dT_copy_12 fO_T_19 sh_1 rfl rfl (rf_1_1 hS) ?_
  refine wq_aload_n (pc := 15) dT_copy_15 rfl rfl ?_
  refine wq_getR (pc := 16) (z := 1) (b := 34) dT_copy_16 fO_T_19 sh_30 rfl rfl (rf_30_1 hS) ?_
  refine wq_callV (d' := 1) (pc := 19) (as := [vR 34]) (rest := []) (lo' := [iR 5, iR 34]) dT_copy_19 mO_W_copy lV_T_52 sh_5 (by decide) cl_9 rfl rfl rfl rfl rfl rfl ?_
  exact H

set_option maxRecDepth 20000 in
theorem B_T_copy_r_22 {M : Mm} {Q : Mm → Option Mv → Prop} (hS : RefOK M) (H : Wq 1 0 0 mE_copy 0 [iR 12, iR 41] [] M (fun M' v => Wq 2 0 0 mT_copy 33 [iR 1, iR 30] (v.toList ++ []) M' Q)) : Wq 2 0 0 mT_copy 22 [iR 1, iR 30] [] M Q := by
  refine wq_aload_n (pc := 22) dT_copy_22 rfl rfl ?_
  refine wq_getR (pc := 23) (z := 2) (b := 12) dT_copy_23 fO_T_26 sh_1 rfl rfl (rf_1_2 hS) ?_
  refine wq_aload_n (pc := 26) dT_copy_26 rfl rfl ?_
  refine wq_getR (pc := 27) (z := 2) (b := 41) dT_copy_27 fO_T_26 sh_30 rfl rfl (rf_30_2 hS) ?_
  refine wq_callV (d' := 1) (pc := 30) (as := [vR 41]) (rest := []) (lo' := [iR 12, iR 41]) dT_copy_30 mO_E_copy lV_T_55 sh_12 (by decide) cl_2 rfl rfl rfl rfl rfl rfl ?_
  exact H

set_option maxRecDepth 20000 in
theorem B_T_copy_r_33 {M : Mm} {Q : Mm → Option Mv → Prop} (hS : RefOK M) (H : Wq 1 0 0 mC_copy 0 [iR 20, iR 49] [] M (fun M' v => Wq 2 0 0 mT_copy 44 [iR 1, iR 30] (v.toList ++ []) M' Q)) : Wq 2 0 0 mT_copy 33 [iR 1, iR 30] [] M Q := by
  refine wq_aload_n (pc := 33) dT_copy_33 rfl rfl ?_
  refine wq_getR (pc := 34) (z := 3) (b := 20) dT_copy_34 fO_T_33 sh_1 rfl rfl (rf_1_3 hS) ?_
  refine wq_aload_n (pc := 37) dT_copy_37 rfl rfl ?_
  refine wq_getR (pc := 38) (z := 3) (b := 49) dT_copy_38 fO_T_33 sh_30 rfl rfl (rf_30_3 hS) ?_
  refine wq_callV (d' := 1) (pc := 41) (as := [vR 49]) (rest := []) (lo' := [iR 20, iR 49]) dT_copy_41 mO_C_copy lV_T_58 sh_20 (by decide) cl_0 rfl rfl rfl rfl rfl rfl ?_
  exact H

set_option maxRecDepth 20000 in
theorem B_T_copy_r_44 {M : Mm} {Q : Mm → Option Mv → Prop} (hS : RefOK M) (H : Wq 1 0 0 mH_copy 0 [iR 26, iR 55] [] M (fun M' v => Wq 2 0 0 mT_copy 55 [iR 1, iR 30] (v.toList ++ []) M' Q)) : Wq 2 0 0 mT_copy 44 [iR 1, iR 30] [] M Q := by
  refine wq_aload_n (pc := 44) dT_copy_44 rfl rfl ?_
  refine wq_getR (pc := 45) (z := 4) (b := 26) dT_copy_45 fO_T_40 sh_1 rfl rfl (rf_1_4 hS) ?_
  refine wq_aload_n (pc := 48) dT_copy_48 rfl rfl ?_
  refine wq_getR (pc := 49) (z := 4) (b := 55) dT_copy_49 fO_T_40 sh_30 rfl rfl (rf_30_4 hS) ?_
  refine wq_callV (d' := 1) (pc := 52) (as := [vR 55]) (rest := []) (lo' := [iR 26, iR 55]) dT_copy_52 mO_H_copy lV_T_61 sh_26 (by decide) cl_3 rfl rfl rfl rfl rfl rfl ?_
  exact H

set_option maxRecDepth 20000 in
theorem B_T_copy_r_55 {M : Mm} {Q : Mm → Option Mv → Prop} (H : Q (sI M 1 5 (gI M 30 5)) none) : Wq 2 0 0 mT_copy 55 [iR 1, iR 30] [] M Q := by
  refine wq_aload_n (pc := 55) dT_copy_55 rfl rfl ?_
  refine wq_aload_n (pc := 56) dT_copy_56 rfl rfl ?_
  refine wq_getI (pc := 57) (z := 5) dT_copy_57 fO_T_44 sh_30 rfl rfl ?_
  refine wq_putI (pc := 60) (z := 5) dT_copy_60 fW_T_44 sh_1 rfl rfl ?_
  refine wq_return (pc := 63) dT_copy_63 trivial ?_
  exact H
set_option maxRecDepth 20000 in
theorem B_Y_copy_r_0 {M : Mm} {Q : Mm → Option Mv → Prop} (hS : RefOK M) (H : Q (sI (sI (sI (cI (cL M 32 0 3 0 15) 33 0 4 0 901) 2 2 (gI M 31 2)) 2 3 (gI M 31 3)) 2 4 (gI M 31 4)) none) : Wq 1 0 0 mY_copy 0 [iR 2, iR 31] [] M Q := by
  refine wq_aload_n (pc := 0) dY_copy_0 rfl rfl ?_
  refine wq_getR (pc := 1) (z := 0) (b := 32) dY_copy_1 fO_Y_9 sh_31 rfl rfl (rf_31_0 hS) ?_
  refine wq_iconst (pc := 4) dY_copy_4 rfl ?_
  refine wq_aload_n (pc := 5) dY_copy_5 rfl rfl ?_
  refine wq_getR (pc := 6) (z := 0) (b := 3) dY_copy_6 fO_Y_9 sh_2 rfl rfl (rf_2_0 hS) ?_
  refine wq_iconst (pc := 9) dY_copy_9 rfl ?_
  refine wq_bipush (pc := 10) dY_copy_10 rfl ?_
  refine wq_cpL (pc := 12) dY_copy_12 aC_Y_39 sh_32 sh_3 (by decide) (by decide) (by decide) (by decide) (by decide) rfl ?_
  refine wq_aload_n (pc := 15) dY_copy_15 rfl rfl ?_
  refine wq_getR (pc := 16) (z := 1) (b := 33) dY_copy_16 fO_Y_15 sh_31 rfl rfl (rf_31_1 hS) ?_
  refine wq_iconst (pc := 19) dY_copy_19 rfl ?_
  refine wq_aload_n (pc := 20) dY_copy_20 rfl rfl ?_
  refine wq_getR (pc := 21) (z := 1) (b := 4) dY_copy_21 fO_Y_15 sh_2 rfl rfl (rf_2_1 hS) ?_
  refine wq_iconst (pc := 24) dY_copy_24 rfl ?_
  refine wq_sipush (pc := 25) dY_copy_25 rfl ?_
  refine wq_cpI (pc := 28) dY_copy_28 aC_Y_39 (Or.inl ⟨sh_33, sh_4⟩) (by decide) (by decide) (by decide) (by decide) (by decide) (by decide) (by decide) rfl ?_
  refine wq_aload_n (pc := 31) dY_copy_31 rfl rfl ?_
  refine wq_aload_n (pc := 32) dY_copy_32 rfl rfl ?_
  refine wq_getI (pc := 33) (z := 2) dY_copy_33 fO_Y_19 sh_31 rfl rfl ?_
  refine wq_re (x := (gI (cI (cL M 32 0 3 0 15) 33 0 4 0 901) 31 2)) (y := (gI M 31 2)) rfl ?_
  refine wq_putI (pc := 36) (z := 2) dY_copy_36 fW_Y_19 sh_2 rfl rfl ?_
  refine wq_aload_n (pc := 39) dY_copy_39 rfl rfl ?_
  refine wq_aload_n (pc := 40) dY_copy_40 rfl rfl ?_
  refine wq_getI (pc := 41) (z := 3) dY_copy_41 fO_Y_23 sh_31 rfl rfl ?_
  refine wq_re (x := (gI (sI (cI (cL M 32 0 3 0 15) 33 0 4 0 901) 2 2 (gI M 31 2)) 31 3)) (y := (gI M 31 3)) rfl ?_
  refine wq_putI (pc := 44) (z := 3) dY_copy_44 fW_Y_23 sh_2 rfl rfl ?_
  refine wq_aload_n (pc := 47) dY_copy_47 rfl rfl ?_
  refine wq_aload_n (pc := 48) dY_copy_48 rfl rfl ?_
  refine wq_getI (pc := 49) (z := 4) dY_copy_49 fO_Y_32 sh_31 rfl rfl ?_
  refine wq_re (x := (gI (sI (sI (cI (cL M 32 0 3 0 15) 33 0 4 0 901) 2 2 (gI M 31 2)) 2 3 (gI M 31 3)) 31 4)) (y := (gI M 31 4)) rfl ?_
  refine wq_putI (pc := 52) (z := 4) dY_copy_52 fW_Y_32 sh_2 rfl rfl ?_
  refine wq_return (pc := 55) dY_copy_55 trivial ?_
  exact H
set_option maxRecDepth 20000 in
theorem B_W_copy_r_0 {M : Mm} {Q : Mm → Option Mv → Prop} (hS : RefOK M) (H : Q (sI (sI (cI (cI (cI (cI (cI (cI M 35 0 6 0 16) 36 0 7 0 16) 37 0 8 0 16) 38 0 9 0 16) 39 0 10 0 256) 40 0 11 0 16) 5 6 (gI M 34 6)) 5 7 (gI M 34 7)) none) : Wq 1 0 0 mW_copy 0 [iR 5, iR 34] [] M Q := by
  refine wq_aload_n (pc := 0) dW_copy_0 rfl rfl ?_
  refine wq_getR (pc := 1) (z := 0) (b := 35) dW_copy_1 fO_W_9 sh_34 rfl rfl (rf_34_0 hS) ?_
  refine wq_iconst (pc := 4) dW_copy_4 rfl ?_
  refine wq_aload_n (pc := 5) dW_copy_5 rfl rfl ?_
  refine wq_getR (pc := 6) (z := 0) (b := 6) dW_copy_6 fO_W_9 sh_5 rfl rfl (rf_5_0 hS) ?_
  refine wq_iconst (pc := 9) dW_copy_9 rfl ?_
  refine wq_bipush (pc := 10) dW_copy_10 rfl ?_
  refine wq_cpI (pc := 12) dW_copy_12 aC_W_37 (Or.inl ⟨sh_35, sh_6⟩) (by decide) (by decide) (by decide) (by decide) (by decide) (by decide) (by decide) rfl ?_
  refine wq_aload_n (pc := 15) dW_copy_15 rfl rfl ?_
  refine wq_getR (pc := 16) (z := 1) (b := 36) dW_copy_16 fO_W_15 sh_34 rfl rfl (rf_34_1 hS) ?_
  refine wq_iconst (pc := 19) dW_copy_19 rfl ?_
  refine wq_aload_n (pc := 20) dW_copy_20 rfl rfl ?_
  refine wq_getR (pc := 21) (z := 1) (b := 7) dW_copy_21 fO_W_15 sh_5 rfl rfl (rf_5_1 hS) ?_
  refine wq_iconst (pc := 24) dW_copy_24 rfl ?_
  refine wq_bipush (pc := 25) dW_copy_25 rfl ?_
  refine wq_cpI (pc := 27) dW_copy_27 aC_W_37 (Or.inl ⟨sh_36, sh_7⟩) (by decide) (by decide) (by decide) (by decide) (by decide) (by decide) (by decide) rfl ?_
  refine wq_aload_n (pc := 30) dW_copy_30 rfl rfl ?_
  refine wq_getR (pc := 31) (z := 2) (b := 37) dW_copy_31 fO_W_18 sh_34 rfl rfl (rf_34_2 hS) ?_
  refine wq_iconst (pc := 34) dW_copy_34 rfl ?_
  refine wq_aload_n (pc := 35) dW_copy_35 rfl rfl ?_
  refine wq_getR (pc := 36) (z := 2) (b := 8) dW_copy_36 fO_W_18 sh_5 rfl rfl (rf_5_2 hS) ?_
  refine wq_iconst (pc := 39) dW_copy_39 rfl ?_
  refine wq_bipush (pc := 40) dW_copy_40 rfl ?_
  refine wq_cpI (pc := 42) dW_copy_42 aC_W_37 (Or.inl ⟨sh_37, sh_8⟩) (by decide) (by decide) (by decide) (by decide) (by decide) (by decide) (by decide) rfl ?_
  refine wq_aload_n (pc := 45) dW_copy_45 rfl rfl ?_
  refine wq_getR (pc := 46) (z := 3) (b := 38) dW_copy_46 fO_W_21 sh_34 rfl rfl (rf_34_3 hS) ?_
  refine wq_iconst (pc := 49) dW_copy_49 rfl ?_
  refine wq_aload_n (pc := 50) dW_copy_50 rfl rfl ?_
  refine wq_getR (pc := 51) (z := 3) (b := 9) dW_copy_51 fO_W_21 sh_5 rfl rfl (rf_5_3 hS) ?_
  refine wq_iconst (pc := 54) dW_copy_54 rfl ?_
  refine wq_bipush (pc := 55) dW_copy_55 rfl ?_
  refine wq_cpI (pc := 57) dW_copy_57 aC_W_37 (Or.inl ⟨sh_38, sh_9⟩) (by decide) (by decide) (by decide) (by decide) (by decide) (by decide) (by decide) rfl ?_
  refine wq_aload_n (pc := 60) dW_copy_60 rfl rfl ?_
  refine wq_getR (pc := 61) (z := 4) (b := 39) dW_copy_61 fO_W_24 sh_34 rfl rfl (rf_34_4 hS) ?_
  refine wq_iconst (pc := 64) dW_copy_64 rfl ?_
  refine wq_aload_n (pc := 65) dW_copy_65 rfl rfl ?_
  refine wq_getR (pc := 66) (z := 4) (b := 10) dW_copy_66 fO_W_24 sh_5 rfl rfl (rf_5_4 hS) ?_
  refine wq_iconst (pc := 69) dW_copy_69 rfl ?_
  refine wq_sipush (pc := 70) dW_copy_70 rfl ?_
  refine wq_cpI (pc := 73) dW_copy_73 aC_W_37 (Or.inl ⟨sh_39, sh_10⟩) (by decide) (by decide) (by decide) (by decide) (by decide) (by decide) (by decide) rfl ?_
  refine wq_aload_n (pc := 76) dW_copy_76 rfl rfl ?_
  refine wq_getR (pc := 77) (z := 5) (b := 40) dW_copy_77 fO_W_27 sh_34 rfl rfl (rf_34_5 hS) ?_
  refine wq_iconst (pc := 80) dW_copy_80 rfl ?_
  refine wq_aload_n (pc := 81) dW_copy_81 rfl rfl ?_
  refine wq_getR (pc := 82) (z := 5) (b := 11) dW_copy_82 fO_W_27 sh_5 rfl rfl (rf_5_5 hS) ?_
  refine wq_iconst (pc := 85) dW_copy_85 rfl ?_
  refine wq_bipush (pc := 86) dW_copy_86 rfl ?_
  refine wq_cpI (pc := 88) dW_copy_88 aC_W_37 (Or.inl ⟨sh_40, sh_11⟩) (by decide) (by decide) (by decide) (by decide) (by decide) (by decide) (by decide) rfl ?_
  refine wq_aload_n (pc := 91) dW_copy_91 rfl rfl ?_
  refine wq_aload_n (pc := 92) dW_copy_92 rfl rfl ?_
  refine wq_getI (pc := 93) (z := 6) dW_copy_93 fO_W_30 sh_34 rfl rfl ?_
  refine wq_re (x := (gI (cI (cI (cI (cI (cI (cI M 35 0 6 0 16) 36 0 7 0 16) 37 0 8 0 16) 38 0 9 0 16) 39 0 10 0 256) 40 0 11 0 16) 34 6)) (y := (gI M 34 6)) rfl ?_
  refine wq_putI (pc := 96) (z := 6) dW_copy_96 fW_W_30 sh_5 rfl rfl ?_
  refine wq_aload_n (pc := 99) dW_copy_99 rfl rfl ?_
  refine wq_aload_n (pc := 100) dW_copy_100 rfl rfl ?_
  refine wq_getI (pc := 101) (z := 7) dW_copy_101 fO_W_34 sh_34 rfl rfl ?_
  refine wq_re (x := (gI (sI (cI (cI (cI (cI (cI (cI M 35 0 6 0 16) 36 0 7 0 16) 37 0 8 0 16) 38 0 9 0 16) 39 0 10 0 256) 40 0 11 0 16) 5 6 (gI M 34 6)) 34 7)) (y := (gI M 34 7)) rfl ?_
  refine wq_putI (pc := 104) (z := 7) dW_copy_104 fW_W_34 sh_5 rfl rfl ?_
  refine wq_return (pc := 107) dW_copy_107 trivial ?_
  exact H
set_option maxRecDepth 20000 in
theorem B_E_copy_r_0 {M : Mm} {Q : Mm → Option Mv → Prop} (hS : RefOK M) (H : Q (sI (cI (cI (cI (cI (cI (cI (cI M 42 0 13 0 20) 43 0 14 0 20) 44 0 15 0 20) 45 0 16 0 20) 46 0 17 0 20) 47 0 18 0 20) 48 0 19 0 20) 12 7 (gI M 41 7)) none) : Wq 1 0 0 mE_copy 0 [iR 12, iR 41] [] M Q := by
  refine wq_aload_n (pc := 0) dE_copy_0 rfl rfl ?_
  refine wq_getR (pc := 1) (z := 0) (b := 42) dE_copy_1 fO_E_9 sh_41 rfl rfl (rf_41_0 hS) ?_
  refine wq_iconst (pc := 4) dE_copy_4 rfl ?_
  refine wq_aload_n (pc := 5) dE_copy_5 rfl rfl ?_
  refine wq_getR (pc := 6) (z := 0) (b := 13) dE_copy_6 fO_E_9 sh_12 rfl rfl (rf_12_0 hS) ?_
  refine wq_iconst (pc := 9) dE_copy_9 rfl ?_
  refine wq_bipush (pc := 10) dE_copy_10 rfl ?_
  refine wq_cpI (pc := 12) dE_copy_12 aC_E_37 (Or.inl ⟨sh_42, sh_13⟩) (by decide) (by decide) (by decide) (by decide) (by decide) (by decide) (by decide) rfl ?_
  refine wq_aload_n (pc := 15) dE_copy_15 rfl rfl ?_
  refine wq_getR (pc := 16) (z := 1) (b := 43) dE_copy_16 fO_E_15 sh_41 rfl rfl (rf_41_1 hS) ?_
  refine wq_iconst (pc := 19) dE_copy_19 rfl ?_
  refine wq_aload_n (pc := 20) dE_copy_20 rfl rfl ?_
  refine wq_getR (pc := 21) (z := 1) (b := 14) dE_copy_21 fO_E_15 sh_12 rfl rfl (rf_12_1 hS) ?_
  refine wq_iconst (pc := 24) dE_copy_24 rfl ?_
  refine wq_bipush (pc := 25) dE_copy_25 rfl ?_
  refine wq_cpI (pc := 27) dE_copy_27 aC_E_37 (Or.inl ⟨sh_43, sh_14⟩) (by decide) (by decide) (by decide) (by decide) (by decide) (by decide) (by decide) rfl ?_
  refine wq_aload_n (pc := 30) dE_copy_30 rfl rfl ?_
  refine wq_getR (pc := 31) (z := 2) (b := 44) dE_copy_31 fO_E_18 sh_41 rfl rfl (rf_41_2 hS) ?_
  refine wq_iconst (pc := 34) dE_copy_34 rfl ?_
  refine wq_aload_n (pc := 35) dE_copy_35 rfl rfl ?_
  refine wq_getR (pc := 36) (z := 2) (b := 15) dE_copy_36 fO_E_18 sh_12 rfl rfl (rf_12_2 hS) ?_
  refine wq_iconst (pc := 39) dE_copy_39 rfl ?_
  refine wq_bipush (pc := 40) dE_copy_40 rfl ?_
  refine wq_cpI (pc := 42) dE_copy_42 aC_E_37 (Or.inl ⟨sh_44, sh_15⟩) (by decide) (by decide) (by decide) (by decide) (by decide) (by decide) (by decide) rfl ?_
  refine wq_aload_n (pc := 45) dE_copy_45 rfl rfl ?_
  refine wq_getR (pc := 46) (z := 3) (b := 45) dE_copy_46 fO_E_21 sh_41 rfl rfl (rf_41_3 hS) ?_
  refine wq_iconst (pc := 49) dE_copy_49 rfl ?_
  refine wq_aload_n (pc := 50) dE_copy_50 rfl rfl ?_
  refine wq_getR (pc := 51) (z := 3) (b := 16) dE_copy_51 fO_E_21 sh_12 rfl rfl (rf_12_3 hS) ?_
  refine wq_iconst (pc := 54) dE_copy_54 rfl ?_
  refine wq_bipush (pc := 55) dE_copy_55 rfl ?_
  refine wq_cpI (pc := 57) dE_copy_57 aC_E_37 (Or.inl ⟨sh_45, sh_16⟩) (by decide) (by decide) (by decide) (by decide) (by decide) (by decide) (by decide) rfl ?_
  refine wq_aload_n (pc := 60) dE_copy_60 rfl rfl ?_
  refine wq_getR (pc := 61) (z := 4) (b := 46) dE_copy_61 fO_E_24 sh_41 rfl rfl (rf_41_4 hS) ?_
  refine wq_iconst (pc := 64) dE_copy_64 rfl ?_
  refine wq_aload_n (pc := 65) dE_copy_65 rfl rfl ?_
  refine wq_getR (pc := 66) (z := 4) (b := 17) dE_copy_66 fO_E_24 sh_12 rfl rfl (rf_12_4 hS) ?_
  refine wq_iconst (pc := 69) dE_copy_69 rfl ?_
  refine wq_bipush (pc := 70) dE_copy_70 rfl ?_
  refine wq_cpI (pc := 72) dE_copy_72 aC_E_37 (Or.inl ⟨sh_46, sh_17⟩) (by decide) (by decide) (by decide) (by decide) (by decide) (by decide) (by decide) rfl ?_
  refine wq_aload_n (pc := 75) dE_copy_75 rfl rfl ?_
  refine wq_getR (pc := 76) (z := 5) (b := 47) dE_copy_76 fO_E_27 sh_41 rfl rfl (rf_41_5 hS) ?_
  refine wq_iconst (pc := 79) dE_copy_79 rfl ?_
  refine wq_aload_n (pc := 80) dE_copy_80 rfl rfl ?_
  refine wq_getR (pc := 81) (z := 5) (b := 18) dE_copy_81 fO_E_27 sh_12 rfl rfl (rf_12_5 hS) ?_
  refine wq_iconst (pc := 84) dE_copy_84 rfl ?_
  refine wq_bipush (pc := 85) dE_copy_85 rfl ?_
  refine wq_cpI (pc := 87) dE_copy_87 aC_E_37 (Or.inl ⟨sh_47, sh_18⟩) (by decide) (by decide) (by decide) (by decide) (by decide) (by decide) (by decide) rfl ?_
  refine wq_aload_n (pc := 90) dE_copy_90 rfl rfl ?_
  refine wq_getR (pc := 91) (z := 6) (b := 48) dE_copy_91 fO_E_30 sh_41 rfl rfl (rf_41_6 hS) ?_
  refine wq_iconst (pc := 94) dE_copy_94 rfl ?_
  refine wq_aload_n (pc := 95) dE_copy_95 rfl rfl ?_
  refine wq_getR (pc := 96) (z := 6) (b := 19) dE_copy_96 fO_E_30 sh_12 rfl rfl (rf_12_6 hS) ?_
  refine wq_iconst (pc := 99) dE_copy_99 rfl ?_
  refine wq_bipush (pc := 100) dE_copy_100 rfl ?_
  refine wq_cpI (pc := 102) dE_copy_102 aC_E_37 (Or.inl ⟨sh_48, sh_19⟩) (by decide) (by decide) (by decide) (by decide) (by decide) (by decide) (by decide) rfl ?_
  refine wq_aload_n (pc := 105) dE_copy_105 rfl rfl ?_
  refine wq_aload_n (pc := 106) dE_copy_106 rfl rfl ?_
  refine wq_getI (pc := 107) (z := 7) dE_copy_107 fO_E_33 sh_41 rfl rfl ?_
  refine wq_re (x := (gI (cI (cI (cI (cI (cI (cI (cI M 42 0 13 0 20) 43 0 14 0 20) 44 0 15 0 20) 45 0 16 0 20) 46 0 17 0 20) 47 0 18 0 20) 48 0 19 0 20) 41 7)) (y := (gI M 41 7)) rfl ?_
  refine wq_putI (pc := 110) (z := 7) dE_copy_110 fW_E_33 sh_12 rfl rfl ?_
  refine wq_return (pc := 113) dE_copy_113 trivial ?_
  exact H
set_option maxRecDepth 20000 in
theorem B_C_copy_r_0 {M : Mm} {Q : Mm → Option Mv → Prop} (hS : RefOK M) (H : Q (sI (sI (cI (cI (cI (cI (cI M 50 0 21 0 60) 51 0 22 0 600) 52 0 23 0 10) 53 0 24 0 10) 54 0 25 0 10) 20 5 (gI M 49 5)) 20 6 (gI M 49 6)) none) : Wq 1 0 0 mC_copy 0 [iR 20, iR 49] [] M Q := by
  refine wq_aload_n (pc := 0) dC_copy_0 rfl rfl ?_
  refine wq_getR (pc := 1) (z := 0) (b := 50) dC_copy_1 fO_C_9 sh_49 rfl rfl (rf_49_0 hS) ?_
  refine wq_iconst (pc := 4) dC_copy_4 rfl ?_
  refine wq_aload_n (pc := 5) dC_copy_5 rfl rfl ?_
  refine wq_getR (pc := 6) (z := 0) (b := 21) dC_copy_6 fO_C_9 sh_20 rfl rfl (rf_20_0 hS) ?_
  refine wq_iconst (pc := 9) dC_copy_9 rfl ?_
  refine wq_bipush (pc := 10) dC_copy_10 rfl ?_
  refine wq_cpI (pc := 12) dC_copy_12 aC_C_35 (Or.inr ⟨sh_50, sh_21⟩) (by decide) (by decide) (by decide) (by decide) (by decide) (by decide) (by decide) rfl ?_
  refine wq_aload_n (pc := 15) dC_copy_15 rfl rfl ?_
  refine wq_getR (pc := 16) (z := 1) (b := 51) dC_copy_16 fO_C_15 sh_49 rfl rfl (rf_49_1 hS) ?_
  refine wq_iconst (pc := 19) dC_copy_19 rfl ?_
  refine wq_aload_n (pc := 20) dC_copy_20 rfl rfl ?_
  refine wq_getR (pc := 21) (z := 1) (b := 22) dC_copy_21 fO_C_15 sh_20 rfl rfl (rf_20_1 hS) ?_
  refine wq_iconst (pc := 24) dC_copy_24 rfl ?_
  refine wq_sipush (pc := 25) dC_copy_25 rfl ?_
  refine wq_cpI (pc := 28) dC_copy_28 aC_C_35 (Or.inr ⟨sh_51, sh_22⟩) (by decide) (by decide) (by decide) (by decide) (by decide) (by decide) (by decide) rfl ?_
  refine wq_aload_n (pc := 31) dC_copy_31 rfl rfl ?_
  refine wq_getR (pc := 32) (z := 2) (b := 52) dC_copy_32 fO_C_18 sh_49 rfl rfl (rf_49_2 hS) ?_
  refine wq_iconst (pc := 35) dC_copy_35 rfl ?_
  refine wq_aload_n (pc := 36) dC_copy_36 rfl rfl ?_
  refine wq_getR (pc := 37) (z := 2) (b := 23) dC_copy_37 fO_C_18 sh_20 rfl rfl (rf_20_2 hS) ?_
  refine wq_iconst (pc := 40) dC_copy_40 rfl ?_
  refine wq_bipush (pc := 41) dC_copy_41 rfl ?_
  refine wq_cpI (pc := 43) dC_copy_43 aC_C_35 (Or.inl ⟨sh_52, sh_23⟩) (by decide) (by decide) (by decide) (by decide) (by decide) (by decide) (by decide) rfl ?_
  refine wq_aload_n (pc := 46) dC_copy_46 rfl rfl ?_
  refine wq_getR (pc := 47) (z := 3) (b := 53) dC_copy_47 fO_C_22 sh_49 rfl rfl (rf_49_3 hS) ?_
  refine wq_iconst (pc := 50) dC_copy_50 rfl ?_
  refine wq_aload_n (pc := 51) dC_copy_51 rfl rfl ?_
  refine wq_getR (pc := 52) (z := 3) (b := 24) dC_copy_52 fO_C_22 sh_20 rfl rfl (rf_20_3 hS) ?_
  refine wq_iconst (pc := 55) dC_copy_55 rfl ?_
  refine wq_bipush (pc := 56) dC_copy_56 rfl ?_
  refine wq_cpI (pc := 58) dC_copy_58 aC_C_35 (Or.inl ⟨sh_53, sh_24⟩) (by decide) (by decide) (by decide) (by decide) (by decide) (by decide) (by decide) rfl ?_
  refine wq_aload_n (pc := 61) dC_copy_61 rfl rfl ?_
  refine wq_getR (pc := 62) (z := 4) (b := 54) dC_copy_62 fO_C_25 sh_49 rfl rfl (rf_49_4 hS) ?_
  refine wq_iconst (pc := 65) dC_copy_65 rfl ?_
  refine wq_aload_n (pc := 66) dC_copy_66 rfl rfl ?_
  refine wq_getR (pc := 67) (z := 4) (b := 25) dC_copy_67 fO_C_25 sh_20 rfl rfl (rf_20_4 hS) ?_
  refine wq_iconst (pc := 70) dC_copy_70 rfl ?_
  refine wq_bipush (pc := 71) dC_copy_71 rfl ?_
  refine wq_cpI (pc := 73) dC_copy_73 aC_C_35 (Or.inl ⟨sh_54, sh_25⟩) (by decide) (by decide) (by decide) (by decide) (by decide) (by decide) (by decide) rfl ?_
  refine wq_aload_n (pc := 76) dC_copy_76 rfl rfl ?_
  refine wq_aload_n (pc := 77) dC_copy_77 rfl rfl ?_
  refine wq_getI (pc := 78) (z := 5) dC_copy_78 fO_C_28 sh_49 rfl rfl ?_
  refine wq_re (x := (gI (cI (cI (cI (cI (cI M 50 0 21 0 60) 51 0 22 0 600) 52 0 23 0 10) 53 0 24 0 10) 54 0 25 0 10) 49 5)) (y := (gI M 49 5)) rfl ?_
  refine wq_putI (pc := 81) (z := 5) dC_copy_81 fW_C_28 sh_20 rfl rfl ?_
  refine wq_aload_n (pc := 84) dC_copy_84 rfl rfl ?_
  refine wq_aload_n (pc := 85) dC_copy_85 rfl rfl ?_
  refine wq_getI (pc := 86) (z := 6) dC_copy_86 fO_C_32 sh_49 rfl rfl ?_
  refine wq_re (x := (gI (sI (cI (cI (cI (cI (cI M 50 0 21 0 60) 51 0 22 0 600) 52 0 23 0 10) 53 0 24 0 10) 54 0 25 0 10) 20 5 (gI M 49 5)) 49 6)) (y := (gI M 49 6)) rfl ?_
  refine wq_putI (pc := 89) (z := 6) dC_copy_89 fW_C_32 sh_20 rfl rfl ?_
  refine wq_return (pc := 92) dC_copy_92 trivial ?_
  exact H
set_option maxRecDepth 20000 in
theorem B_H_copy_r_0 {M : Mm} {Q : Mm → Option Mv → Prop} (hS : RefOK M) (H : Q (sI (cI (cI (cI M 56 0 27 0 5) 57 0 28 0 5) 58 0 29 0 5) 26 3 (gI M 55 3)) none) : Wq 1 0 0 mH_copy 0 [iR 26, iR 55] [] M Q := by
  refine wq_aload_n (pc := 0) dH_copy_0 rfl rfl ?_
  refine wq_getR (pc := 1) (z := 0) (b := 56) dH_copy_1 fO_H_9 sh_55 rfl rfl (rf_55_0 hS) ?_
  refine wq_iconst (pc := 4) dH_copy_4 rfl ?_
  refine wq_aload_n (pc := 5) dH_copy_5 rfl rfl ?_
  refine wq_getR (pc := 6) (z := 0) (b := 27) dH_copy_6 fO_H_9 sh_26 rfl rfl (rf_26_0 hS) ?_
  refine wq_iconst (pc := 9) dH_copy_9 rfl ?_
  refine wq_iconst (pc := 10) dH_copy_10 rfl ?_
  refine wq_cpI (pc := 11) dH_copy_11 aC_H_25 (Or.inl ⟨sh_56, sh_27⟩) (by decide) (by decide) (by decide) (by decide) (by decide) (by decide) (by decide) rfl ?_
  refine wq_aload_n (pc := 14) dH_copy_14 rfl rfl ?_
  refine wq_getR (pc := 15) (z := 1) (b := 57) dH_copy_15 fO_H_15 sh_55 rfl rfl (rf_55_1 hS) ?_
  refine wq_iconst (pc := 18) dH_copy_18 rfl ?_
  refine wq_aload_n (pc := 19) dH_copy_19 rfl rfl ?_
  refine wq_getR (pc := 20) (z := 1) (b := 28) dH_copy_20 fO_H_15 sh_26 rfl rfl (rf_26_1 hS) ?_
  refine wq_iconst (pc := 23) dH_copy_23 rfl ?_
  refine wq_iconst (pc := 24) dH_copy_24 rfl ?_
  refine wq_cpI (pc := 25) dH_copy_25 aC_H_25 (Or.inl ⟨sh_57, sh_28⟩) (by decide) (by decide) (by decide) (by decide) (by decide) (by decide) (by decide) rfl ?_
  refine wq_aload_n (pc := 28) dH_copy_28 rfl rfl ?_
  refine wq_getR (pc := 29) (z := 2) (b := 58) dH_copy_29 fO_H_18 sh_55 rfl rfl (rf_55_2 hS) ?_
  refine wq_iconst (pc := 32) dH_copy_32 rfl ?_
  refine wq_aload_n (pc := 33) dH_copy_33 rfl rfl ?_
  refine wq_getR (pc := 34) (z := 2) (b := 29) dH_copy_34 fO_H_18 sh_26 rfl rfl (rf_26_2 hS) ?_
  refine wq_iconst (pc := 37) dH_copy_37 rfl ?_
  refine wq_iconst (pc := 38) dH_copy_38 rfl ?_
  refine wq_cpI (pc := 39) dH_copy_39 aC_H_25 (Or.inl ⟨sh_58, sh_29⟩) (by decide) (by decide) (by decide) (by decide) (by decide) (by decide) (by decide) rfl ?_
  refine wq_aload_n (pc := 42) dH_copy_42 rfl rfl ?_
  refine wq_aload_n (pc := 43) dH_copy_43 rfl rfl ?_
  refine wq_getI (pc := 44) (z := 3) dH_copy_44 fO_H_21 sh_55 rfl rfl ?_
  refine wq_re (x := (gI (cI (cI (cI M 56 0 27 0 5) 57 0 28 0 5) 58 0 29 0 5) 55 3)) (y := (gI M 55 3)) rfl ?_
  refine wq_putI (pc := 47) (z := 3) dH_copy_47 fW_H_21 sh_26 rfl rfl ?_
  refine wq_return (pc := 50) dH_copy_50 trivial ?_
  exact H
