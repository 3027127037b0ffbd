set_option maxRecDepth 20000 in
theorem B_D_link_0 {x1 x2 x3 : Int} {M : Mm} {Q : Mm → Option Mv → Prop} (hS : RefOK M) (H : ((0 ≤ x1 ∧ x1 < gI M 5 6 → ((0 ≤ x2 ∧ x2 < gI M 5 6 → ((x1 = x2 → Q (sI M 69 1 (wr (gI M 69 1 + 1))) (some (vI (-1000001)))) ∧ (¬ x1 = x2 → ((0 ≤ x3 ∧ x3 ≤ 20 → (((0 ≤ x2 ∧ x2 < 16) ∧ (0 ≤ gI M 9 x2 ∧ gI M 9 x2 < 2147483648 ∧ 0 ≤ x1 ∧ x1 < 32)) ∧ ((hb (gI M 9 x2) x1 = true → Q (sI M 69 3 (wr (gI M 69 3 + 1))) (some (vI (-1000003)))) ∧ (¬ (hb (gI M 9 x2) x1 = true) → Wq 2 0 0 mW_leadsTo 0 [iR 5, iI x2, iI x1, none, none, none, none] [] M (fun M' v => Wq 5 0 0 mD_link 66 [iR 0, iI x1, iI x2, iI x3, iR 5] (v.toList ++ []) M' Q))))) ∧ (¬ (0 ≤ x3 ∧ x3 ≤ 20) → Q (sI M 69 1 (wr (gI M 69 1 + 1))) (some (vI (-1000001)))))))) ∧ (¬ (0 ≤ x2 ∧ x2 < gI M 5 6) → Q (sI M 69 1 (wr (gI M 69 1 + 1))) (some (vI (-1000001)))))) ∧ (¬ (0 ≤ x1 ∧ x1 < gI M 5 6) → Q (sI M 69 1 (wr (gI M 69 1 + 1))) (some (vI (-1000001)))))) : Wq 5 0 0 mD_link 0 [iR 0, iI x1, iI x2, iI x3, none] [] M Q := by
  refine wq_aload_n (pc := 0) dD_link_0 rfl rfl ?_
  refine wq_getR (pc := 1) (z := 0) (b := 1) dD_link_1 fO_D_12 sh_0 rfl rfl (rf_0_0 hS) ?_
  refine wq_getR (pc := 4) (z := 1) (b := 5) dD_link_4 fO_D_74 sh_1 rfl rfl (rf_1_1 hS) ?_
  refine wq_astore (pc := 7) (lo' := [iR 0, iI x1, iI x2, iI x3, iR 5]) dD_link_7 rfl rfl ?_
  refine wq_aload (pc := 9) dD_link_9 rfl ?_
  refine wq_iload_n (pc := 11) dD_link_11 rfl rfl ?_
  refine wq_callV (d' := 1) (pc := 12) (as := [vI x1]) (rest := []) (lo' := [iR 5, iI x1]) dD_link_12 mO_W_has lV_D_88 sh_5 (by decide) cl_9 rfl rfl rfl rfl rfl rfl ?_
  refine sp_W_has (fun c1 => ?_) (fun c1 => ?_)
  · have H := H.1 c1
    show Wq 5 0 0 mD_link 15 [iR 0, iI x1, iI x2, iI x3, iR 5] [vI 1] M _
    refine wq_if_eq (pc := 15) (tgt := 42) dD_link_15 (by decide) (fun q => absurd q (by decide)) (fun _ => ?_)
    refine wq_aload (pc := 18) dD_link_18 rfl ?_
    refine wq_iload_n (pc := 20) dD_link_20 rfl rfl ?_
    refine wq_callV (d' := 1) (pc := 21) (as := [vI x2]) (rest := []) (lo' := [iR 5, iI x2]) dD_link_21 mO_W_has lV_D_88 sh_5 (by decide) cl_9 rfl rfl rfl rfl rfl rfl ?_
    refine sp_W_has (fun c2 => ?_) (fun c2 => ?_)
    · have H := H.1 c2
      show Wq 5 0 0 mD_link 24 [iR 0, iI x1, iI x2, iI x3, iR 5] [vI 1] M _
      refine wq_if_eq (pc := 24) (tgt := 42) dD_link_24 (by decide) (fun q => absurd q (by decide)) (fun _ => ?_)
      refine wq_iload_n (pc := 27) dD_link_27 rfl rfl ?_
      refine wq_iload_n (pc := 28) dD_link_28 rfl rfl ?_
      refine wq_icmp_eq (pc := 29) (tgt := 42) dD_link_29 (by decide) (fun c3 => ?_) (fun c3 => ?_)
      · have H := H.1 c3
        refine wq_aload_n (pc := 42) dD_link_42 rfl rfl ?_
        refine wq_ldc (pc := 43) (z := (-1000001)) dD_link_43 kO_D_69 (by decide) ?_
        refine wq_callV (d' := 2) (pc := 45) (as := [vI (-1000001)]) (rest := []) (lo' := [iR 0, iI ((-1000001)), none]) dD_link_45 mO_D_finding lV_D_70 sh_0 (by decide) cl_10 rfl rfl rfl rfl rfl rfl ?_
        refine sp_D_finding (k := 1) (by decide) (by decide) (by decide) hS ?_
        show Wq 5 0 0 mD_link 48 [iR 0, iI x1, iI x2, iI x3, iR 5] [vI (-1000001)] (sI M 69 1 (wr (gI M 69 1 + 1))) _
        refine wq_ireturn (pc := 48) dD_link_48 trivial ?_
        exact H
      · have H := H.2 c3
        refine wq_iload_n (pc := 32) dD_link_32 rfl rfl ?_
        refine wq_iconst (pc := 33) dD_link_33 rfl ?_
        refine wq_bipush (pc := 34) dD_link_34 rfl ?_
        refine wq_callS (d' := 1) (pc := 36) (as := [vI x3, vI 0, vI 20]) (rest := []) (lo' := [iI x3, iI 0, iI 20]) dD_link_36 mO_D_within lS_D_65 rfl rfl rfl rfl rfl rfl ?_
        refine sp_D_within (fun c4 => ?_) (fun c4 => ?_)
        · have H := H.1 c4
          show Wq 5 0 0 mD_link 39 [iR 0, iI x1, iI x2, iI x3, iR 5] [vI 1] M _
          obtain ⟨s5, H⟩ := H
          refine wq_if_ne (pc := 39) (tgt := 49) dD_link_39 (by decide) (fun _ => ?_) (fun q => absurd q (by decide))
          refine wq_aload (pc := 49) dD_link_49 rfl ?_
          refine wq_iload_n (pc := 51) dD_link_51 rfl rfl ?_
          refine wq_iload_n (pc := 52) dD_link_52 rfl rfl ?_
          refine wq_callV (d' := 2) (pc := 53) (as := [vI x1, vI x2]) (rest := []) (lo' := [iR 5, iI x1, iI x2]) dD_link_53 mO_W_linked lV_D_112 sh_5 (by decide) cl_9 rfl rfl rfl rfl rfl rfl ?_
          refine sp_W_linked hS s5 (fun c6 => ?_) (fun c6 => ?_)
          · have H := H.1 c6
            show Wq 5 0 0 mD_link 56 [iR 0, iI x1, iI x2, iI x3, iR 5] [vI 1] M _
            refine wq_if_ne (pc := 56) (tgt := 69) dD_link_56 (by decide) (fun _ => ?_) (fun q => absurd q (by decide))
            refine wq_aload_n (pc := 69) dD_link_69 rfl rfl ?_
            refine wq_ldc (pc := 70) (z := (-1000003)) dD_link_70 kO_D_111 (by decide) ?_
            refine wq_callV (d' := 2) (pc := 72) (as := [vI (-1000003)]) (rest := []) (lo' := [iR 0, iI ((-1000003)), none]) dD_link_72 mO_D_finding lV_D_70 sh_0 (by decide) cl_10 rfl rfl rfl rfl rfl rfl ?_
            refine sp_D_finding (k := 3) (by decide) (by decide) (by decide) hS ?_
            show Wq 5 0 0 mD_link 75 [iR 0, iI x1, iI x2, iI x3, iR 5] [vI (-1000003)] (sI M 69 3 (wr (gI M 69 3 + 1))) _
            refine wq_ireturn (pc := 75) dD_link_75 trivial ?_
            exact H
          · have H := H.2 c6
            show Wq 5 0 0 mD_link 56 [iR 0, iI x1, iI x2, iI x3, iR 5] [vI 0] M _
            refine wq_if_ne (pc := 56) (tgt := 69) dD_link_56 (by decide) (fun q => absurd q (by decide)) (fun _ => ?_)
            refine wq_aload (pc := 59) dD_link_59 rfl ?_
            refine wq_iload_n (pc := 61) dD_link_61 rfl rfl ?_
            refine wq_iload_n (pc := 62) dD_link_62 rfl rfl ?_
            refine wq_callV (d' := 2) (pc := 63) (as := [vI x2, vI x1]) (rest := []) (lo' := [iR 5, iI x2, iI x1, none, none, none, none]) dD_link_63 mO_W_leadsTo lV_D_115 sh_5 (by decide) cl_9 rfl rfl rfl rfl rfl rfl ?_
            exact H
        · have H := H.2 c4
          show Wq 5 0 0 mD_link 39 [iR 0, iI x1, iI x2, iI x3, iR 5] [vI 0] M _
          refine wq_if_ne (pc := 39) (tgt := 49) dD_link_39 (by decide) (fun q => absurd q (by decide)) (fun _ => ?_)
          refine wq_aload_n (pc := 42) dD_link_42 rfl rfl ?_
          refine wq_ldc (pc := 43) (z := (-1000001)) dD_link_43 kO_D_69 (by decide) ?_
          refine wq_callV (d' := 2) (pc := 45) (as := [vI (-1000001)]) (rest := []) (lo' := [iR 0, iI ((-1000001)), none]) dD_link_45 mO_D_finding lV_D_70 sh_0 (by decide) cl_10 rfl rfl rfl rfl rfl rfl ?_
          refine sp_D_finding (k := 1) (by decide) (by decide) (by decide) hS ?_
          show Wq 5 0 0 mD_link 48 [iR 0, iI x1, iI x2, iI x3, iR 5] [vI (-1000001)] (sI M 69 1 (wr (gI M 69 1 + 1))) _
          refine wq_ireturn (pc := 48) dD_link_48 trivial ?_
          exact H
    · have H := H.2 c2
      show Wq 5 0 0 mD_link 24 [iR 0, iI x1, iI x2, iI x3, iR 5] [vI 0] M _
      refine wq_if_eq (pc := 24) (tgt := 42) dD_link_24 (by decide) (fun _ => ?_) (fun q => absurd (by decide) q)
      refine wq_aload_n (pc := 42) dD_link_42 rfl rfl ?_
      refine wq_ldc (pc := 43) (z := (-1000001)) dD_link_43 kO_D_69 (by decide) ?_
      refine wq_callV (d' := 2) (pc := 45) (as := [vI (-1000001)]) (rest := []) (lo' := [iR 0, iI ((-1000001)), none]) dD_link_45 mO_D_finding lV_D_70 sh_0 (by decide) cl_10 rfl rfl rfl rfl rfl rfl ?_
      refine sp_D_finding (k := 1) (by decide) (by decide) (by decide) hS ?_
      show Wq 5 0 0 mD_link 48 [iR 0, iI x1, iI x2, iI x3, iR 5] [vI (-1000001)] (sI M 69 1 (wr (gI M 69 1 + 1))) _
      refine wq_ireturn (pc := 48) dD_link_48 trivial ?_
      exact H
  · have H := H.2 c1
    show Wq 5 0 0 mD_link 15 [iR 0, iI x1, iI x2, iI x3, iR 5] [vI 0] M _
    refine wq_if_eq (pc := 15) (tgt := 42) dD_link_15 (by decide) (fun _ => ?_) (fun q => absurd (by decide) q)
    refine wq_aload_n (pc := 42) dD_link_42 rfl rfl ?_
    refine wq_ldc (pc := 43) (z := (-1000001)) dD_link_43 kO_D_69 (by decide) ?_
    refine wq_callV (d' := 2) (pc := 45) (as := [vI (-1000001)]) (rest := []) (lo' := [iR 0, iI ((-1000001)), none]) dD_link_45 mO_D_finding lV_D_70 sh_0 (by decide) cl_10 rfl rfl rfl rfl rfl rfl ?_
    refine sp_D_finding (k := 1) (by decide) (by decide) (by decide) hS ?_
    show Wq 5 0 0 mD_link 48 [iR 0, iI x1, iI x2, iI x3, iR 5] [vI (-1000001)] (sI M 69 1 (wr (gI M 69 1 + 1))) _
    refine wq_ireturn (pc := 48) dD_link_48 trivial ?_
    exact H

set_option maxRecDepth 20000 in
theorem B_D_link_66 {x1 x2 x3 y0 : Int} {M : Mm} {Q : Mm → Option Mv → Prop} (hS : RefOK M) (H : ((y0 = 0 → ((gI M 5 7 < 30 → Wq 4 0 0 mW_join 0 [iR 5, iI x1, iI x2, iI x3] [] M (fun M' v => Wq 5 0 0 mD_link 101 [iR 0, iI x1, iI x2, iI x3, iR 5] (v.toList ++ []) M' Q)) ∧ (¬ gI M 5 7 < 30 → Q (sI M 69 4 (wr (gI M 69 4 + 1))) (some (vI (-1000004)))))) ∧ (¬ y0 = 0 → Q (sI M 69 3 (wr (gI M 69 3 + 1))) (some (vI (-1000003)))))) : Wq 5 0 0 mD_link 66 [iR 0, iI x1, iI x2, iI x3, iR 5] [vI y0] M Q := by
  refine wq_if_eq (pc := 66) (tgt := 76) dD_link_66 (by decide) (fun c1 => ?_) (fun c1 => ?_)
  · have H := H.1 c1
    refine wq_aload (pc := 76) dD_link_76 rfl ?_
    refine wq_getI (pc := 78) (z := 7) dD_link_78 fO_D_118 sh_5 rfl rfl ?_
    refine wq_bipush (pc := 81) dD_link_81 rfl ?_
    refine wq_icmp_lt (pc := 83) (tgt := 93) dD_link_83 (by decide) (fun c2 => ?_) (fun c2 => ?_)
    · have H := H.1 c2
      refine wq_aload (pc := 93) dD_link_93 rfl ?_
      refine wq_iload_n (pc := 95) dD_link_95 rfl rfl ?_
      refine wq_iload_n (pc := 96) dD_link_96 rfl rfl ?_
      refine wq_iload_n (pc := 97) dD_link_97 rfl rfl ?_
      refine wq_callV (d' := 4) (pc := 98) (as := [vI x1, vI x2, vI x3]) (rest := []) (lo' := [iR 5, iI x1, iI x2, iI x3]) dD_link_98 mO_W_join lV_D_121 sh_5 (by decide) cl_9 rfl rfl rfl rfl rfl rfl ?_
      exact H
    · have H := H.2 c2
      refine wq_aload_n (pc := 86) dD_link_86 rfl rfl ?_
      refine wq_ldc (pc := 87) (z := (-1000004)) dD_link_87 kO_D_83 (by decide) ?_
      refine wq_callV (d' := 2) (pc := 89) (as := [vI (-1000004)]) (rest := []) (lo' := [iR 0, iI ((-1000004)), none]) dD_link_89 mO_D_finding lV_D_70 sh_0 (by decide) cl_10 rfl rfl rfl rfl rfl rfl ?_
      refine sp_D_finding (k := 4) (by decide) (by decide) (by decide) hS ?_
      show Wq 5 0 0 mD_link 92 [iR 0, iI x1, iI x2, iI x3, iR 5] [vI (-1000004)] (sI M 69 4 (wr (gI M 69 4 + 1))) _
      refine wq_ireturn (pc := 92) dD_link_92 trivial ?_
      exact H
  · have H := H.2 c1
    refine wq_aload_n (pc := 69) dD_link_69 rfl rfl ?_
    refine wq_ldc (pc := 70) (z := (-1000003)) dD_link_70 kO_D_111 (by decide) ?_
    refine wq_callV (d' := 2) (pc := 72) (as := [vI (-1000003)]) (rest := []) (lo' := [iR 0, iI ((-1000003)), none]) dD_link_72 mO_D_finding lV_D_70 sh_0 (by decide) cl_10 rfl rfl rfl rfl rfl rfl ?_
    refine sp_D_finding (k := 3) (by decide) (by decide) (by decide) hS ?_
    show Wq 5 0 0 mD_link 75 [iR 0, iI x1, iI x2, iI x3, iR 5] [vI (-1000003)] (sI M 69 3 (wr (gI M 69 3 + 1))) _
    refine wq_ireturn (pc := 75) dD_link_75 trivial ?_
    exact H

set_option maxRecDepth 20000 in
theorem B_D_link_101 {x1 x2 x3 y0 : Int} {M : Mm} {Q : Mm → Option Mv → Prop} (H : Q M (some (vI y0))) : Wq 5 0 0 mD_link 101 [iR 0, iI x1, iI x2, iI x3, iR 5] [vI y0] M Q := by
  refine wq_ireturn (pc := 101) dD_link_101 trivial ?_
  exact H
set_option maxRecDepth 20000 in
theorem B_M_link_0 {x1 x2 x3 : Int} {M : Mm} {Q : Mm → Option Mv → Prop} (hS : RefOK M) (H : (0 ≤ gI M 81 2 ∧ ((0 ≤ x1 ∧ x1 < gI M 81 2 → (0 ≤ gI M 81 2 ∧ ((0 ≤ x2 ∧ x2 < gI M 81 2 → ((x1 = x2 → Q (sI M 83 1 (wr (gI M 83 1 + 1))) (some (vI (-1000001)))) ∧ (¬ x1 = x2 → ((0 ≤ x3 ∧ x3 ≤ 20 → Wq 1 0 0 mM_linkAt 0 [iR 80, iI x1, iI x2, none] [] M (fun M' v => Wq 3 0 0 mM_link 48 [iR 80, iI x1, iI x2, iI x3, none] (v.toList ++ []) M' Q)) ∧ (¬ (0 ≤ x3 ∧ x3 ≤ 20) → Q (sI M 83 1 (wr (gI M 83 1 + 1))) (some (vI (-1000001)))))))) ∧ (¬ (0 ≤ x2 ∧ x2 < gI M 81 2) → Q (sI M 83 1 (wr (gI M 83 1 + 1))) (some (vI (-1000001))))))) ∧ (¬ (0 ≤ x1 ∧ x1 < gI M 81 2) → Q (sI M 83 1 (wr (gI M 83 1 + 1))) (some (vI (-1000001))))))) : Wq 3 0 0 mM_link 0 [iR 80, iI x1, iI x2, iI x3, none] [] M Q := by
  obtain ⟨s1, H⟩ := H
  refine wq_aload_n (pc := 0) dM_link_0 rfl rfl ?_
  refine wq_iload_n (pc := 1) dM_link_1 rfl rfl ?_
  refine wq_iconst (pc := 2) dM_link_2 rfl ?_
  refine wq_callV (d' := 2) (pc := 3) (as := [vI x1, vI 2]) (rest := []) (lo' := [iR 80, iI x1, iI 2]) dM_link_3 mO_M_is lV_M_84 sh_80 (by decide) cl_11 rfl rfl rfl rfl rfl rfl ?_
  refine sp_M_is (c := 2) (by decide) hS s1 (fun c2 => ?_) (fun c2 => ?_)
  · have H := H.1 c2
    show Wq 3 0 0 mM_link 6 [iR 80, iI x1, iI x2, iI x3, none] [vI 1] M _
    obtain ⟨s3, H⟩ := H
    refine wq_if_eq (pc := 6) (tgt := 35) dM_link_6 (by decide) (fun q => absurd q (by decide)) (fun _ => ?_)
    refine wq_aload_n (pc := 9) dM_link_9 rfl rfl ?_
    refine wq_iload_n (pc := 10) dM_link_10 rfl rfl ?_
    refine wq_iconst (pc := 11) dM_link_11 rfl ?_
    refine wq_callV (d' := 2) (pc := 12) (as := [vI x2, vI 2]) (rest := []) (lo' := [iR 80, iI x2, iI 2]) dM_link_12 mO_M_is lV_M_84 sh_80 (by decide) cl_11 rfl rfl rfl rfl rfl rfl ?_
    refine sp_M_is (c := 2) (by decide) hS s3 (fun c4 => ?_) (fun c4 => ?_)
    · have H := H.1 c4
      show Wq 3 0 0 mM_link 15 [iR 80, iI x1, iI x2, iI x3, none] [vI 1] M _
      refine wq_if_eq (pc := 15) (tgt := 35) dM_link_15 (by decide) (fun q => absurd q (by decide)) (fun _ => ?_)
      refine wq_iload_n (pc := 18) dM_link_18 rfl rfl ?_
      refine wq_iload_n (pc := 19) dM_link_19 rfl rfl ?_
      refine wq_icmp_eq (pc := 20) (tgt := 35) dM_link_20 (by decide) (fun c5 => ?_) (fun c5 => ?_)
      · have H := H.1 c5
        refine wq_aload_n (pc := 35) dM_link_35 rfl rfl ?_
        refine wq_ldc (pc := 36) (z := (-1000001)) dM_link_36 kO_M_78 (by decide) ?_
        refine wq_callV (d' := 1) (pc := 38) (as := [vI (-1000001)]) (rest := []) (lo' := [iR 80, iI ((-1000001))]) dM_link_38 mO_M_finding lV_M_79 sh_80 (by decide) cl_11 rfl rfl rfl rfl rfl rfl ?_
        refine sp_M_finding (k := 1) (by decide) (by decide) (by decide) hS ?_
        show Wq 3 0 0 mM_link 41 [iR 80, iI x1, iI x2, iI x3, none] [vI (-1000001)] (sI M 83 1 (wr (gI M 83 1 + 1))) _
        refine wq_ireturn (pc := 41) dM_link_41 trivial ?_
        exact H
      · have H := H.2 c5
        refine wq_iload_n (pc := 23) dM_link_23 rfl rfl ?_
        refine wq_i2l (pc := 24) dM_link_24 ?_
        refine wq_lconst (pc := 25) (x := 0) dM_link_25 rfl rfl ?_
        refine wq_ldc2 (pc := 26) (z := 20) dM_link_26 kO_M_105 (by decide) ?_
        refine wq_callS (d' := 1) (pc := 29) (as := [vL x3, vL 0, vL 20]) (rest := []) (lo' := [iL x3, none, iL 0, none, iL 20, none]) dM_link_29 mO_M_within lS_M_68 rfl rfl rfl rfl rfl rfl ?_
        refine sp_M_within (fun c6 => ?_) (fun c6 => ?_)
        · have H := H.1 c6
          show Wq 3 0 0 mM_link 32 [iR 80, iI x1, iI x2, iI x3, none] [vI 1] M _
          refine wq_if_ne (pc := 32) (tgt := 42) dM_link_32 (by decide) (fun _ => ?_) (fun q => absurd q (by decide))
          refine wq_aload_n (pc := 42) dM_link_42 rfl rfl ?_
          refine wq_iload_n (pc := 43) dM_link_43 rfl rfl ?_
          refine wq_iload_n (pc := 44) dM_link_44 rfl rfl ?_
          refine wq_callV (d' := 1) (pc := 45) (as := [vI x1, vI x2]) (rest := []) (lo' := [iR 80, iI x1, iI x2, none]) dM_link_45 mO_M_linkAt lV_M_107 sh_80 (by decide) cl_11 rfl rfl rfl rfl rfl rfl ?_
          exact H
        · have H := H.2 c6
          show Wq 3 0 0 mM_link 32 [iR 80, iI x1, iI x2, iI x3, none] [vI 0] M _
          refine wq_if_ne (pc := 32) (tgt := 42) dM_link_32 (by decide) (fun q => absurd q (by decide)) (fun _ => ?_)
          refine wq_aload_n (pc := 35) dM_link_35 rfl rfl ?_
          refine wq_ldc (pc := 36) (z := (-1000001)) dM_link_36 kO_M_78 (by decide) ?_
          refine wq_callV (d' := 1) (pc := 38) (as := [vI (-1000001)]) (rest := []) (lo' := [iR 80, iI ((-1000001))]) dM_link_38 mO_M_finding lV_M_79 sh_80 (by decide) cl_11 rfl rfl rfl rfl rfl rfl ?_
          refine sp_M_finding (k := 1) (by decide) (by decide) (by decide) hS ?_
          show Wq 3 0 0 mM_link 41 [iR 80, iI x1, iI x2, iI x3, none] [vI (-1000001)] (sI M 83 1 (wr (gI M 83 1 + 1))) _
          refine wq_ireturn (pc := 41) dM_link_41 trivial ?_
          exact H
    · have H := H.2 c4
      show Wq 3 0 0 mM_link 15 [iR 80, iI x1, iI x2, iI x3, none] [vI 0] M _
      refine wq_if_eq (pc := 15) (tgt := 35) dM_link_15 (by decide) (fun _ => ?_) (fun q => absurd (by decide) q)
      refine wq_aload_n (pc := 35) dM_link_35 rfl rfl ?_
      refine wq_ldc (pc := 36) (z := (-1000001)) dM_link_36 kO_M_78 (by decide) ?_
      refine wq_callV (d' := 1) (pc := 38) (as := [vI (-1000001)]) (rest := []) (lo' := [iR 80, iI ((-1000001))]) dM_link_38 mO_M_finding lV_M_79 sh_80 (by decide) cl_11 rfl rfl rfl rfl rfl rfl ?_
      refine sp_M_finding (k := 1) (by decide) (by decide) (by decide) hS ?_
      show Wq 3 0 0 mM_link 41 [iR 80, iI x1, iI x2, iI x3, none] [vI (-1000001)] (sI M 83 1 (wr (gI M 83 1 + 1))) _
      refine wq_ireturn (pc := 41) dM_link_41 trivial ?_
      exact H
  · have H := H.2 c2
    show Wq 3 0 0 mM_link 6 [iR 80, iI x1, iI x2, iI x3, none] [vI 0] M _
    refine wq_if_eq (pc := 6) (tgt := 35) dM_link_6 (by decide) (fun _ => ?_) (fun q => absurd (by decide) q)
    refine wq_aload_n (pc := 35) dM_link_35 rfl rfl ?_
    refine wq_ldc (pc := 36) (z := (-1000001)) dM_link_36 kO_M_78 (by decide) ?_
    refine wq_callV (d' := 1) (pc := 38) (as := [vI (-1000001)]) (rest := []) (lo' := [iR 80, iI ((-1000001))]) dM_link_38 mO_M_finding lV_M_79 sh_80 (by decide) cl_11 rfl rfl rfl rfl rfl rfl ?_
    refine sp_M_finding (k := 1) (by decide) (by decide) (by decide) hS ?_
    show Wq 3 0 0 mM_link 41 [iR 80, iI x1, iI x2, iI x3, none] [vI (-1000001)] (sI M 83 1 (wr (gI M 83 1 + 1))) _
    refine wq_ireturn (pc := 41) dM_link_41 trivial ?_
    exact H

set_option maxRecDepth 20000 in
theorem B_M_link_48 {x1 x2 x3 y0 : Int} {M : Mm} {Q : Mm → Option Mv → Prop} (hS : RefOK M) (H : ((0 ≤ y0 → Q (sI M 83 3 (wr (gI M 83 3 + 1))) (some (vI (-1000003)))) ∧ (¬ 0 ≤ y0 → Wq 2 0 0 mM_leads 0 [iR 80, iI x2, iI x1, none, none, none] [] M (fun M' v => Wq 3 0 0 mM_link 57 [iR 80, iI x1, iI x2, iI x3, none] (v.toList ++ []) M' Q)))) : Wq 3 0 0 mM_link 48 [iR 80, iI x1, iI x2, iI x3, none] [vI y0] M Q := by
  refine wq_if_ge (pc := 48) (tgt := 60) dM_link_48 (by decide) (fun c1 => ?_) (fun c1 => ?_)
  · have H := H.1 c1
    refine wq_aload_n (pc := 60) dM_link_60 rfl rfl ?_
    refine wq_ldc (pc := 61) (z := (-1000003)) dM_link_61 kO_M_101 (by decide) ?_
    refine wq_callV (d' := 1) (pc := 63) (as := [vI (-1000003)]) (rest := []) (lo' := [iR 80, iI ((-1000003))]) dM_link_63 mO_M_finding lV_M_79 sh_80 (by decide) cl_11 rfl rfl rfl rfl rfl rfl ?_
    refine sp_M_finding (k := 3) (by decide) (by decide) (by decide) hS ?_
    show Wq 3 0 0 mM_link 66 [iR 80, iI x1, iI x2, iI x3, none] [vI (-1000003)] (sI M 83 3 (wr (gI M 83 3 + 1))) _
    refine wq_ireturn (pc := 66) dM_link_66 trivial ?_
    exact H
  · have H := H.2 c1
    refine wq_aload_n (pc := 51) dM_link_51 rfl rfl ?_
    refine wq_iload_n (pc := 52) dM_link_52 rfl rfl ?_
    refine wq_iload_n (pc := 53) dM_link_53 rfl rfl ?_
    refine wq_callV (d' := 2) (pc := 54) (as := [vI x2, vI x1]) (rest := []) (lo' := [iR 80, iI x2, iI x1, none, none, none]) dM_link_54 mO_M_leads lV_M_111 sh_80 (by decide) cl_11 rfl rfl rfl rfl rfl rfl ?_
    exact H

set_option maxRecDepth 20000 in
theorem B_M_link_57 {x1 x2 x3 y0 : Int} {M : Mm} {Q : Mm → Option Mv → Prop} (hS : RefOK M) (H : ((y0 = 0 → ((¬ gI M 81 3 = 30 → (((0 ≤ 58 + 3 * gI M 81 3 ∧ 58 + 3 * gI M 81 3 < 1993) ∧ (0 ≤ 59 + 3 * gI M 81 3 ∧ 59 + 3 * gI M 81 3 < 1993) ∧ (0 ≤ 60 + 3 * gI M 81 3 ∧ 60 + 3 * gI M 81 3 < 1993) ∧ 3 ≠ 60 + 3 * gI M 81 3 ∧ 3 ≠ 59 + 3 * gI M 81 3 ∧ 3 ≠ 58 + 3 * gI M 81 3 ∧ (-2147483648 ≤ gI M 81 3 + 1 ∧ gI M 81 3 + 1 < 2147483648)) ∧ Wq 1 0 0 mM_changed 0 [iR 80, none] [] (sI (sI (sI (sI M 81 (58 + 3 * gI M 81 3) x1) 81 (59 + 3 * gI M 81 3) x2) 81 (60 + 3 * gI M 81 3) x3) 81 3 (gI M 81 3 + 1)) (fun M' v => Wq 3 0 0 mM_link 146 [iR 80, iI x1, iI x2, iI x3, iI (gI M 81 3)] (v.toList ++ []) M' Q))) ∧ (gI M 81 3 = 30 → Q (sI M 83 4 (wr (gI M 83 4 + 1))) (some (vI (-1000004)))))) ∧ (¬ y0 = 0 → Q (sI M 83 3 (wr (gI M 83 3 + 1))) (some (vI (-1000003)))))) : Wq 3 0 0 mM_link 57 [iR 80, iI x1, iI x2, iI x3, none] [vI y0] M Q := by
  refine wq_if_eq (pc := 57) (tgt := 67) dM_link_57 (by decide) (fun c1 => ?_) (fun c1 => ?_)
  · have H := H.1 c1
    refine wq_aload_n (pc := 67) dM_link_67 rfl rfl ?_
    refine wq_getR (pc := 68) (z := 0) (b := 81) dM_link_68 fO_M_9 sh_80 rfl rfl (rf_80_0 hS) ?_
    refine wq_iconst (pc := 71) dM_link_71 rfl ?_
    refine wq_iald (pc := 72) dM_link_72 sh_81 (by decide) (by decide) ?_
    refine wq_istore (pc := 73) (lo' := [iR 80, iI x1, iI x2, iI x3, iI (gI M 81 3)]) dM_link_73 rfl rfl ?_
    refine wq_iload (pc := 75) dM_link_75 rfl ?_
    refine wq_bipush (pc := 77) dM_link_77 rfl ?_
    refine wq_icmp_ne (pc := 79) (tgt := 89) dM_link_79 (by decide) (fun c2 => ?_) (fun c2 => ?_)
    · have H := H.1 c2
      obtain ⟨⟨s3, s4, s5, s6, s7, s8, s9⟩, H⟩ := H
      refine wq_aload_n (pc := 89) dM_link_89 rfl rfl ?_
      refine wq_getR (pc := 90) (z := 0) (b := 81) dM_link_90 fO_M_9 sh_80 rfl rfl (rf_80_0 hS) ?_
      refine wq_bipush (pc := 93) dM_link_93 rfl ?_
      refine wq_iconst (pc := 95) dM_link_95 rfl ?_
      refine wq_iload (pc := 96) dM_link_96 rfl ?_
      refine wq_imul (pc := 98) dM_link_98 ?_
      refine wq_iadd (pc := 99) dM_link_99 ?_
      refine wq_iload_n (pc := 100) dM_link_100 rfl rfl ?_
      refine wq_re2 (x := (wr (58 + wr (3 * gI M 81 3)))) (y := (58 + 3 * gI M 81 3)) (by (try simp only [wr_al, wr_ar, wr_sl, wr_sr, wr_ml, wr_mr, wr_nn, wr_ww]); exact Eq.trans (wr_eq (by omega) (by omega)) (by omega)) ?_
      refine wq_iast (pc := 101) dM_link_101 sh_81 (by decide) s3.1 s3.2 ?_
      refine wq_aload_n (pc := 102) dM_link_102 rfl rfl ?_
      refine wq_getR (pc := 103) (z := 0) (b := 81) dM_link_103 fO_M_9 sh_80 rfl rfl (rf_80_0 hS) ?_
      refine wq_bipush (pc := 106) dM_link_106 rfl ?_
      refine wq_iconst (pc := 108) dM_link_108 rfl ?_
      refine wq_iload (pc := 109) dM_link_109 rfl ?_
      refine wq_imul (pc := 111) dM_link_111 ?_
      refine wq_iadd (pc := 112) dM_link_112 ?_
      refine wq_iconst (pc := 113) dM_link_113 rfl ?_
      refine wq_iadd (pc := 114) dM_link_114 ?_
      refine wq_iload_n (pc := 115) dM_link_115 rfl rfl ?_
      refine wq_re2 (x := (wr (wr (58 + wr (3 * gI M 81 3)) + 1))) (y := (59 + 3 * gI M 81 3)) (by (try simp only [wr_al, wr_ar, wr_sl, wr_sr, wr_ml, wr_mr, wr_nn, wr_ww]); exact Eq.trans (wr_eq (by omega) (by omega)) (by omega)) ?_
      refine wq_iast (pc := 116) dM_link_116 sh_81 (by decide) s4.1 s4.2 ?_
      refine wq_aload_n (pc := 117) dM_link_117 rfl rfl ?_
      refine wq_getR (pc := 118) (z := 0) (b := 81) dM_link_118 fO_M_9 sh_80 rfl rfl (rf_80_0 hS) ?_
      refine wq_bipush (pc := 121) dM_link_121 rfl ?_
      refine wq_iconst (pc := 123) dM_link_123 rfl ?_
      refine wq_iload (pc := 124) dM_link_124 rfl ?_
      refine wq_imul (pc := 126) dM_link_126 ?_
      refine wq_iadd (pc := 127) dM_link_127 ?_
      refine wq_iconst (pc := 128) dM_link_128 rfl ?_
      refine wq_iadd (pc := 129) dM_link_129 ?_
      refine wq_iload_n (pc := 130) dM_link_130 rfl rfl ?_
      refine wq_re2 (x := (wr (wr (58 + wr (3 * gI M 81 3)) + 2))) (y := (60 + 3 * gI M 81 3)) (by (try simp only [wr_al, wr_ar, wr_sl, wr_sr, wr_ml, wr_mr, wr_nn, wr_ww]); exact Eq.trans (wr_eq (by omega) (by omega)) (by omega)) ?_
      refine wq_iast (pc := 131) dM_link_131 sh_81 (by decide) s5.1 s5.2 ?_
      refine wq_aload_n (pc := 132) dM_link_132 rfl rfl ?_
      refine wq_getR (pc := 133) (z := 0) (b := 81) dM_link_133 fO_M_9 sh_80 rfl rfl (rf_80_0 hS) ?_
      refine wq_iconst (pc := 136) dM_link_136 rfl ?_
      refine wq_dup2 (pc := 137) dM_link_137 rfl rfl ?_
      refine wq_iald (pc := 138) dM_link_138 sh_81 (by decide) (by decide) ?_
      refine wq_re (x := (gI (sI (sI (sI M 81 (58 + 3 * gI M 81 3) x1) 81 (59 + 3 * gI M 81 3) x2) 81 (60 + 3 * gI M 81 3) x3) 81 3)) (y := (gI M 81 3)) (Eq.trans (gI_n (Or.inr s6)) (Eq.trans (gI_n (Or.inr s7)) (gI_n (Or.inr s8)))) ?_
      refine wq_iconst (pc := 139) dM_link_139 rfl ?_
      refine wq_iadd (pc := 140) dM_link_140 ?_
      refine wq_re (x := (wr (gI M 81 3 + 1))) (y := (gI M 81 3 + 1)) (Eq.trans (wr_eq (by omega) (by omega)) (by omega)) ?_
      refine wq_iast (pc := 141) dM_link_141 sh_81 (by decide) (by decide) (by decide) ?_
      refine wq_aload_n (pc := 142) dM_link_142 rfl rfl ?_
      refine wq_callV (d' := 1) (pc := 143) (as := []) (rest := []) (lo' := [iR 80, none]) dM_link_143 mO_M_changed lV_M_64 sh_80 (by decide) cl_11 rfl rfl rfl rfl rfl rfl ?_
      exact H
    · have H := H.2 c2
      refine wq_aload_n (pc := 82) dM_link_82 rfl rfl ?_
      refine wq_ldc (pc := 83) (z := (-1000004)) dM_link_83 kO_M_83 (by decide) ?_
      refine wq_callV (d' := 1) (pc := 85) (as := [vI (-1000004)]) (rest := []) (lo' := [iR 80, iI ((-1000004))]) dM_link_85 mO_M_finding lV_M_79 sh_80 (by decide) cl_11 rfl rfl rfl rfl rfl rfl ?_
      refine sp_M_finding (k := 4) (by decide) (by decide) (by decide) hS ?_
      show Wq 3 0 0 mM_link 88 [iR 80, iI x1, iI x2, iI x3, iI (gI M 81 3)] [vI (-1000004)] (sI M 83 4 (wr (gI M 83 4 + 1))) _
      refine wq_ireturn (pc := 88) dM_link_88 trivial ?_
      exact H
  · have H := H.2 c1
    refine wq_aload_n (pc := 60) dM_link_60 rfl rfl ?_
    refine wq_ldc (pc := 61) (z := (-1000003)) dM_link_61 kO_M_101 (by decide) ?_
    refine wq_callV (d' := 1) (pc := 63) (as := [vI (-1000003)]) (rest := []) (lo' := [iR 80, iI ((-1000003))]) dM_link_63 mO_M_finding lV_M_79 sh_80 (by decide) cl_11 rfl rfl rfl rfl rfl rfl ?_
    refine sp_M_finding (k := 3) (by decide) (by decide) (by decide) hS ?_
    show Wq 3 0 0 mM_link 66 [iR 80, iI x1, iI x2, iI x3, none] [vI (-1000003)] (sI M 83 3 (wr (gI M 83 3 + 1))) _
    refine wq_ireturn (pc := 66) dM_link_66 trivial ?_
    exact H

set_option maxRecDepth 20000 in
theorem B_M_link_146 {x1 x2 x3 x4 : Int} {M : Mm} {Q : Mm → Option Mv → Prop} (hS : RefOK M) (H : Q M (some (vI (gI M 81 3)))) : Wq 3 0 0 mM_link 146 [iR 80, iI x1, iI x2, iI x3, iI x4] [] M Q := by
  refine wq_aload_n (pc := 146) dM_link_146 rfl rfl ?_
  refine wq_getR (pc := 147) (z := 0) (b := 81) dM_link_147 fO_M_9 sh_80 rfl rfl (rf_80_0 hS) ?_
  refine wq_iconst (pc := 150) dM_link_150 rfl ?_
  refine wq_iald (pc := 151) dM_link_151 sh_81 (by decide) (by decide) ?_
  refine wq_ireturn (pc := 152) dM_link_152 trivial ?_
  exact H
set_option maxRecDepth 20000 in
theorem B_D_unlink_0 {x1 x2 : Int} {M : Mm} {Q : Mm → Option Mv → Prop} (hS : RefOK M) (H : ((0 ≤ x1 ∧ x1 < gI M 5 6 → ((0 ≤ x2 ∧ x2 < gI M 5 6 → (((0 ≤ x2 ∧ x2 < 16) ∧ (0 ≤ gI M 9 x2 ∧ gI M 9 x2 < 2147483648 ∧ 0 ≤ x1 ∧ x1 < 32)) ∧ ((hb (gI M 9 x2) x1 = true → Wq 1 0 0 mW_loosen 0 [iR 5, iI x1, iI x2] [] M (fun M' v => Wq 3 0 0 mD_unlink 53 [iR 0, iI x1, iI x2, iR 5] (v.toList ++ []) M' Q)) ∧ (¬ (hb (gI M 9 x2) x1 = true) → Q (sI M 69 2 (wr (gI M 69 2 + 1))) (some (vI (-1000002))))))) ∧ (¬ (0 ≤ x2 ∧ x2 < gI M 5 6) → Q (sI M 69 1 (wr (gI M 69 1 + 1))) (some (vI (-1000001)))))) ∧ (¬ (0 ≤ x1 ∧ x1 < gI M 5 6) → Q (sI M 69 1 (wr (gI M 69 1 + 1))) (some (vI (-1000001)))))) : Wq 3 0 0 mD_unlink 0 [iR 0, iI x1, iI x2, none] [] M Q := by
  refine wq_aload_n (pc := 0) dD_unlink_0 rfl rfl ?_
  refine wq_getR (pc := 1) (z := 0) (b := 1) dD_unlink_1 fO_D_12 sh_0 rfl rfl (rf_0_0 hS) ?_
  refine wq_getR (pc := 4) (z := 1) (b := 5) dD_unlink_4 fO_D_74 sh_1 rfl rfl (rf_1_1 hS) ?_
  refine wq_astore_n (pc := 7) (lo' := [iR 0, iI x1, iI x2, iR 5]) dD_unlink_7 rfl rfl rfl ?_
  refine wq_aload_n (pc := 8) dD_unlink_8 rfl rfl ?_
  refine wq_iload_n (pc := 9) dD_unlink_9 rfl rfl ?_
  refine wq_callV (d' := 1) (pc := 10) (as := [vI x1]) (rest := []) (lo' := [iR 5, iI x1]) dD_unlink_10 mO_W_has lV_D_88 sh_5 (by decide) cl_9 rfl rfl rfl rfl rfl rfl ?_
  refine sp_W_has (fun c1 => ?_) (fun c1 => ?_)
  · have H := H.1 c1
    show Wq 3 0 0 mD_unlink 13 [iR 0, iI x1, iI x2, iR 5] [vI 1] M _
    refine wq_if_eq (pc := 13) (tgt := 24) dD_unlink_13 (by decide) (fun q => absurd q (by decide)) (fun _ => ?_)
    refine wq_aload_n (pc := 16) dD_unlink_16 rfl rfl ?_
    refine wq_iload_n (pc := 17) dD_unlink_17 rfl rfl ?_
    refine wq_callV (d' := 1) (pc := 18) (as := [vI x2]) (rest := []) (lo' := [iR 5, iI x2]) dD_unlink_18 mO_W_has lV_D_88 sh_5 (by decide) cl_9 rfl rfl rfl rfl rfl rfl ?_
    refine sp_W_has (fun c2 => ?_) (fun c2 => ?_)
    · have H := H.1 c2
      show Wq 3 0 0 mD_unlink 21 [iR 0, iI x1, iI x2, iR 5] [vI 1] M _
      obtain ⟨s3, H⟩ := H
      refine wq_if_ne (pc := 21) (tgt := 31) dD_unlink_21 (by decide) (fun _ => ?_) (fun q => absurd q (by decide))
      refine wq_aload_n (pc := 31) dD_unlink_31 rfl rfl ?_
      refine wq_iload_n (pc := 32) dD_unlink_32 rfl rfl ?_
      refine wq_iload_n (pc := 33) dD_unlink_33 rfl rfl ?_
      refine wq_callV (d' := 2) (pc := 34) (as := [vI x1, vI x2]) (rest := []) (lo' := [iR 5, iI x1, iI x2]) dD_unlink_34 mO_W_linked lV_D_112 sh_5 (by decide) cl_9 rfl rfl rfl rfl rfl rfl ?_
      refine sp_W_linked hS s3 (fun c4 => ?_) (fun c4 => ?_)
      · have H := H.1 c4
        show Wq 3 0 0 mD_unlink 37 [iR 0, iI x1, iI x2, iR 5] [vI 1] M _
        refine wq_if_ne (pc := 37) (tgt := 47) dD_unlink_37 (by decide) (fun _ => ?_) (fun q => absurd q (by decide))
        refine wq_aload_n (pc := 47) dD_unlink_47 rfl rfl ?_
        refine wq_iload_n (pc := 48) dD_unlink_48 rfl rfl ?_
        refine wq_iload_n (pc := 49) dD_unlink_49 rfl rfl ?_
        refine wq_callV (d' := 1) (pc := 50) (as := [vI x1, vI x2]) (rest := []) (lo' := [iR 5, iI x1, iI x2]) dD_unlink_50 mO_W_loosen lV_D_126 sh_5 (by decide) cl_9 rfl rfl rfl rfl rfl rfl ?_
        exact H
      · have H := H.2 c4
        show Wq 3 0 0 mD_unlink 37 [iR 0, iI x1, iI x2, iR 5] [vI 0] M _
        refine wq_if_ne (pc := 37) (tgt := 47) dD_unlink_37 (by decide) (fun q => absurd q (by decide)) (fun _ => ?_)
        refine wq_aload_n (pc := 40) dD_unlink_40 rfl rfl ?_
        refine wq_ldc (pc := 41) (z := (-1000002)) dD_unlink_41 kO_D_125 (by decide) ?_
        refine wq_callV (d' := 2) (pc := 43) (as := [vI (-1000002)]) (rest := []) (lo' := [iR 0, iI ((-1000002)), none]) dD_unlink_43 mO_D_finding lV_D_70 sh_0 (by decide) cl_10 rfl rfl rfl rfl rfl rfl ?_
        refine sp_D_finding (k := 2) (by decide) (by decide) (by decide) hS ?_
        show Wq 3 0 0 mD_unlink 46 [iR 0, iI x1, iI x2, iR 5] [vI (-1000002)] (sI M 69 2 (wr (gI M 69 2 + 1))) _
        refine wq_ireturn (pc := 46) dD_unlink_46 trivial ?_
        exact H
    · have H := H.2 c2
      show Wq 3 0 0 mD_unlink 21 [iR 0, iI x1, iI x2, iR 5] [vI 0] M _
      refine wq_if_ne (pc := 21) (tgt := 31) dD_unlink_21 (by decide) (fun q => absurd q (by decide)) (fun _ => ?_)
      refine wq_aload_n (pc := 24) dD_unlink_24 rfl rfl ?_
      refine wq_ldc (pc := 25) (z := (-1000001)) dD_unlink_25 kO_D_69 (by decide) ?_
      refine wq_callV (d' := 2) (pc := 27) (as := [vI (-1000001)]) (rest := []) (lo' := [iR 0, iI ((-1000001)), none]) dD_unlink_27 mO_D_finding lV_D_70 sh_0 (by decide) cl_10 rfl rfl rfl rfl rfl rfl ?_
      refine sp_D_finding (k := 1) (by decide) (by decide) (by decide) hS ?_
      show Wq 3 0 0 mD_unlink 30 [iR 0, iI x1, iI x2, iR 5] [vI (-1000001)] (sI M 69 1 (wr (gI M 69 1 + 1))) _
      refine wq_ireturn (pc := 30) dD_unlink_30 trivial ?_
      exact H
  · have H := H.2 c1
    show Wq 3 0 0 mD_unlink 13 [iR 0, iI x1, iI x2, iR 5] [vI 0] M _
    refine wq_if_eq (pc := 13) (tgt := 24) dD_unlink_13 (by decide) (fun _ => ?_) (fun q => absurd (by decide) q)
    refine wq_aload_n (pc := 24) dD_unlink_24 rfl rfl ?_
    refine wq_ldc (pc := 25) (z := (-1000001)) dD_unlink_25 kO_D_69 (by decide) ?_
    refine wq_callV (d' := 2) (pc := 27) (as := [vI (-1000001)]) (rest := []) (lo' := [iR 0, iI ((-1000001)), none]) dD_unlink_27 mO_D_finding lV_D_70 sh_0 (by decide) cl_10 rfl rfl rfl rfl rfl rfl ?_
    refine sp_D_finding (k := 1) (by decide) (by decide) (by decide) hS ?_
    show Wq 3 0 0 mD_unlink 30 [iR 0, iI x1, iI x2, iR 5] [vI (-1000001)] (sI M 69 1 (wr (gI M 69 1 + 1))) _
    refine wq_ireturn (pc := 30) dD_unlink_30 trivial ?_
    exact H

set_option maxRecDepth 20000 in
theorem B_D_unlink_53 {x1 x2 y0 : Int} {M : Mm} {Q : Mm → Option Mv → Prop} (H : Q M (some (vI y0))) : Wq 3 0 0 mD_unlink 53 [iR 0, iI x1, iI x2, iR 5] [vI y0] M Q := by
  refine wq_ireturn (pc := 53) dD_unlink_53 trivial ?_
  exact H
set_option maxRecDepth 20000 in
theorem B_M_unlink_0 {x1 x2 : Int} {M : Mm} {Q : Mm → Option Mv → Prop} (hS : RefOK M) (H : (0 ≤ gI M 81 2 ∧ ((0 ≤ x1 ∧ x1 < gI M 81 2 → (0 ≤ gI M 81 2 ∧ ((0 ≤ x2 ∧ x2 < gI M 81 2 → Wq 1 0 0 mM_linkAt 0 [iR 80, iI x1, iI x2, none] [] M (fun M' v => Wq 3 0 0 mM_unlink 31 [iR 80, iI x1, iI x2, none, none, none] (v.toList ++ []) M' Q)) ∧ (¬ (0 ≤ x2 ∧ x2 < gI M 81 2) → Q (sI M 83 1 (wr (gI M 83 1 + 1))) (some (vI (-1000001))))))) ∧ (¬ (0 ≤ x1 ∧ x1 < gI M 81 2) → Q (sI M 83 1 (wr (gI M 83 1 + 1))) (some (vI (-1000001))))))) : Wq 3 0 0 mM_unlink 0 [iR 80, iI x1, iI x2, none, none, none] [] M Q := by
  obtain ⟨s1, H⟩ := H
  refine wq_aload_n (pc := 0) dM_unlink_0 rfl rfl ?_
  refine wq_iload_n (pc := 1) dM_unlink_1 rfl rfl ?_
  refine wq_iconst (pc := 2) dM_unlink_2 rfl ?_
  refine wq_callV (d' := 2) (pc := 3) (as := [vI x1, vI 2]) (rest := []) (lo' := [iR 80, iI x1, iI 2]) dM_unlink_3 mO_M_is lV_M_84 sh_80 (by decide) cl_11 rfl rfl rfl rfl rfl rfl ?_
  refine sp_M_is (c := 2) (by decide) hS s1 (fun c2 => ?_) (fun c2 => ?_)
  · have H := H.1 c2
    show Wq 3 0 0 mM_unlink 6 [iR 80, iI x1, iI x2, none, none, none] [vI 1] M _
    obtain ⟨s3, H⟩ := H
    refine wq_if_eq (pc := 6) (tgt := 18) dM_unlink_6 (by decide) (fun q => absurd q (by decide)) (fun _ => ?_)
    refine wq_aload_n (pc := 9) dM_unlink_9 rfl rfl ?_
    refine wq_iload_n (pc := 10) dM_unlink_10 rfl rfl ?_
    refine wq_iconst (pc := 11) dM_unlink_11 rfl ?_
    refine wq_callV (d' := 2) (pc := 12) (as := [vI x2, vI 2]) (rest := []) (lo' := [iR 80, iI x2, iI 2]) dM_unlink_12 mO_M_is lV_M_84 sh_80 (by decide) cl_11 rfl rfl rfl rfl rfl rfl ?_
    refine sp_M_is (c := 2) (by decide) hS s3 (fun c4 => ?_) (fun c4 => ?_)
    · have H := H.1 c4
      show Wq 3 0 0 mM_unlink 15 [iR 80, iI x1, iI x2, none, none, none] [vI 1] M _
      refine wq_if_ne (pc := 15) (tgt := 25) dM_unlink_15 (by decide) (fun _ => ?_) (fun q => absurd q (by decide))
      refine wq_aload_n (pc := 25) dM_unlink_25 rfl rfl ?_
      refine wq_iload_n (pc := 26) dM_unlink_26 rfl rfl ?_
      refine wq_iload_n (pc := 27) dM_unlink_27 rfl rfl ?_
      refine wq_callV (d' := 1) (pc := 28) (as := [vI x1, vI x2]) (rest := []) (lo' := [iR 80, iI x1, iI x2, none]) dM_unlink_28 mO_M_linkAt lV_M_107 sh_80 (by decide) cl_11 rfl rfl rfl rfl rfl rfl ?_
      exact H
    · have H := H.2 c4
      show Wq 3 0 0 mM_unlink 15 [iR 80, iI x1, iI x2, none, none, none] [vI 0] M _
      refine wq_if_ne (pc := 15) (tgt := 25) dM_unlink_15 (by decide) (fun q => absurd q (by decide)) (fun _ => ?_)
      refine wq_aload_n (pc := 18) dM_unlink_18 rfl rfl ?_
      refine wq_ldc (pc := 19) (z := (-1000001)) dM_unlink_19 kO_M_78 (by decide) ?_
      refine wq_callV (d' := 1) (pc := 21) (as := [vI (-1000001)]) (rest := []) (lo' := [iR 80, iI ((-1000001))]) dM_unlink_21 mO_M_finding lV_M_79 sh_80 (by decide) cl_11 rfl rfl rfl rfl rfl rfl ?_
      refine sp_M_finding (k := 1) (by decide) (by decide) (by decide) hS ?_
      show Wq 3 0 0 mM_unlink 24 [iR 80, iI x1, iI x2, none, none, none] [vI (-1000001)] (sI M 83 1 (wr (gI M 83 1 + 1))) _
      refine wq_ireturn (pc := 24) dM_unlink_24 trivial ?_
      exact H
  · have H := H.2 c2
    show Wq 3 0 0 mM_unlink 6 [iR 80, iI x1, iI x2, none, none, none] [vI 0] M _
    refine wq_if_eq (pc := 6) (tgt := 18) dM_unlink_6 (by decide) (fun _ => ?_) (fun q => absurd (by decide) q)
    refine wq_aload_n (pc := 18) dM_unlink_18 rfl rfl ?_
    refine wq_ldc (pc := 19) (z := (-1000001)) dM_unlink_19 kO_M_78 (by decide) ?_
    refine wq_callV (d' := 1) (pc := 21) (as := [vI (-1000001)]) (rest := []) (lo' := [iR 80, iI ((-1000001))]) dM_unlink_21 mO_M_finding lV_M_79 sh_80 (by decide) cl_11 rfl rfl rfl rfl rfl rfl ?_
    refine sp_M_finding (k := 1) (by decide) (by decide) (by decide) hS ?_
    show Wq 3 0 0 mM_unlink 24 [iR 80, iI x1, iI x2, none, none, none] [vI (-1000001)] (sI M 83 1 (wr (gI M 83 1 + 1))) _
    refine wq_ireturn (pc := 24) dM_unlink_24 trivial ?_
    exact H

set_option maxRecDepth 20000 in
theorem B_M_unlink_31 {x1 x2 y0 : Int} {M : Mm} {Q : Mm → Option Mv → Prop} (hS : RefOK M) (H : ((0 ≤ y0 → (((0 ≤ 60 + 3 * y0 ∧ 60 + 3 * y0 < 1993) ∧ (-2147483648 ≤ gI M 81 3 - 1 ∧ gI M 81 3 - 1 < 2147483648) ∧ (-2147483648 ≤ 3 * y0 ∧ 3 * y0 < 2147483648)) ∧ Wq 3 0 0 mM_unlink 73 [iR 80, iI x1, iI x2, iI y0, iI (gI M 81 (60 + 3 * y0)), iI (3 * y0)] [] (sI M 81 3 (gI M 81 3 - 1)) Q)) ∧ (¬ 0 ≤ y0 → Q (sI M 83 2 (wr (gI M 83 2 + 1))) (some (vI (-1000002)))))) : Wq 3 0 0 mM_unlink 31 [iR 80, iI x1, iI x2, none, none, none] [vI y0] M Q := by
  refine wq_istore_n (pc := 31) (lo' := [iR 80, iI x1, iI x2, iI y0, none, none]) dM_unlink_31 rfl rfl rfl ?_
  refine wq_iload_n (pc := 32) dM_unlink_32 rfl rfl ?_
  refine wq_if_ge (pc := 33) (tgt := 43) dM_unlink_33 (by decide) (fun c1 => ?_) (fun c1 => ?_)
  · have H := H.1 c1
    obtain ⟨⟨s2, s3, s4⟩, H⟩ := H
    refine wq_aload_n (pc := 43) dM_unlink_43 rfl rfl ?_
    refine wq_getR (pc := 44) (z := 0) (b := 81) dM_unlink_44 fO_M_9 sh_80 rfl rfl (rf_80_0 hS) ?_
    refine wq_bipush (pc := 47) dM_unlink_47 rfl ?_
    refine wq_iconst (pc := 49) dM_unlink_49 rfl ?_
    refine wq_iload_n (pc := 50) dM_unlink_50 rfl rfl ?_
    refine wq_imul (pc := 51) dM_unlink_51 ?_
    refine wq_iadd (pc := 52) dM_unlink_52 ?_
    refine wq_iconst (pc := 53) dM_unlink_53 rfl ?_
    refine wq_iadd (pc := 54) dM_unlink_54 ?_
    refine wq_re (x := (wr (wr (58 + wr (3 * y0)) + 2))) (y := (60 + 3 * y0)) (by (try simp only [wr_al, wr_ar, wr_sl, wr_sr, wr_ml, wr_mr, wr_nn, wr_ww]); exact Eq.trans (wr_eq (by omega) (by omega)) (by omega)) ?_
    refine wq_iald (pc := 55) dM_unlink_55 sh_81 s2.1 s2.2 ?_
    refine wq_istore (pc := 56) (lo' := [iR 80, iI x1, iI x2, iI y0, iI (gI M 81 (60 + 3 * y0)), none]) dM_unlink_56 rfl rfl ?_
    refine wq_aload_n (pc := 58) dM_unlink_58 rfl rfl ?_
    refine wq_getR (pc := 59) (z := 0) (b := 81) dM_unlink_59 fO_M_9 sh_80 rfl rfl (rf_80_0 hS) ?_
    refine wq_iconst (pc := 62) dM_unlink_62 rfl ?_
    refine wq_dup2 (pc := 63) dM_unlink_63 rfl rfl ?_
    refine wq_iald (pc := 64) dM_unlink_64 sh_81 (by decide) (by decide) ?_
    refine wq_iconst (pc := 65) dM_unlink_65 rfl ?_
    refine wq_isub (pc := 66) dM_unlink_66 ?_
    refine wq_re (x := (wr (gI M 81 3 - 1))) (y := (gI M 81 3 - 1)) (Eq.trans (wr_eq (by omega) (by omega)) (by omega)) ?_
    refine wq_iast (pc := 67) dM_unlink_67 sh_81 (by decide) (by decide) (by decide) ?_
    refine wq_iconst (pc := 68) dM_unlink_68 rfl ?_
    refine wq_iload_n (pc := 69) dM_unlink_69 rfl rfl ?_
    refine wq_imul (pc := 70) dM_unlink_70 ?_
    refine wq_re (x := (wr (3 * y0))) (y := (3 * y0)) (Eq.trans (wr_eq (by omega) (by omega)) (by omega)) ?_
    refine wq_istore (pc := 71) (lo' := [iR 80, iI x1, iI x2, iI y0, iI (gI M 81 (60 + 3 * y0)), iI (3 * y0)]) dM_unlink_71 rfl rfl ?_
    exact H
  · have H := H.2 c1
    refine wq_aload_n (pc := 36) dM_unlink_36 rfl rfl ?_
    refine wq_ldc (pc := 37) (z := (-1000002)) dM_unlink_37 kO_M_114 (by decide) ?_
    refine wq_callV (d' := 1) (pc := 39) (as := [vI (-1000002)]) (rest := []) (lo' := [iR 80, iI ((-1000002))]) dM_unlink_39 mO_M_finding lV_M_79 sh_80 (by decide) cl_11 rfl rfl rfl rfl rfl rfl ?_
    refine sp_M_finding (k := 2) (by decide) (by decide) (by decide) hS ?_
    show Wq 3 0 0 mM_unlink 42 [iR 80, iI x1, iI x2, iI y0, none, none] [vI (-1000002)] (sI M 83 2 (wr (gI M 83 2 + 1))) _
    refine wq_ireturn (pc := 42) dM_unlink_42 trivial ?_
    exact H

set_option maxRecDepth 20000 in
theorem B_M_unlink_73 {x1 x2 x3 x4 x5 : Int} {M : Mm} {Q : Mm → Option Mv → Prop} (hS : RefOK M) (H : ((-2147483648 ≤ 3 * gI M 81 3 ∧ 3 * gI M 81 3 < 2147483648) ∧ ((3 * gI M 81 3 ≤ x5 → Wq 1 0 0 mM_changed 0 [iR 80, none] [] M (fun M' v => Wq 3 0 0 mM_unlink 118 [iR 80, iI x1, iI x2, iI x3, iI x4, iI x5] (v.toList ++ []) M' Q)) ∧ (¬ 3 * gI M 81 3 ≤ x5 → (((0 ≤ 61 + x5 ∧ 61 + x5 < 1993) ∧ (0 ≤ 58 + x5 ∧ 58 + x5 < 1993) ∧ (-2147483648 ≤ x5 + 1 ∧ x5 + 1 < 2147483648)) ∧ Wq 3 0 0 mM_unlink 73 [iR 80, iI x1, iI x2, iI x3, iI x4, iI (x5 + 1)] [] (sI M 81 (58 + x5) (gI M 81 (61 + x5))) Q))))) : Wq 3 0 0 mM_unlink 73 [iR 80, iI x1, iI x2, iI x3, iI x4, iI x5] [] M Q := by
  obtain ⟨s1, H⟩ := H
  refine wq_iload (pc := 73) dM_unlink_73 rfl ?_
  refine wq_iconst (pc := 75) dM_unlink_75 rfl ?_
  refine wq_aload_n (pc := 76) dM_unlink_76 rfl rfl ?_
  refine wq_getR (pc := 77) (z := 0) (b := 81) dM_unlink_77 fO_M_9 sh_80 rfl rfl (rf_80_0 hS) ?_
  refine wq_iconst (pc := 80) dM_unlink_80 rfl ?_
  refine wq_iald (pc := 81) dM_unlink_81 sh_81 (by decide) (by decide) ?_
  refine wq_imul (pc := 82) dM_unlink_82 ?_
  refine wq_re (x := (wr (3 * gI M 81 3))) (y := (3 * gI M 81 3)) (Eq.trans (wr_eq (by omega) (by omega)) (by omega)) ?_
  refine wq_icmp_ge (pc := 83) (tgt := 114) dM_unlink_83 (by decide) (fun c2 => ?_) (fun c2 => ?_)
  · have H := H.1 c2
    refine wq_aload_n (pc := 114) dM_unlink_114 rfl rfl ?_
    refine wq_callV (d' := 1) (pc := 115) (as := []) (rest := []) (lo' := [iR 80, none]) dM_unlink_115 mO_M_changed lV_M_64 sh_80 (by decide) cl_11 rfl rfl rfl rfl rfl rfl ?_
    exact H
  · have H := H.2 c2
    obtain ⟨⟨s3, s4, s5⟩, H⟩ := H
    refine wq_aload_n (pc := 86) dM_unlink_86 rfl rfl ?_
    refine wq_getR (pc := 87) (z := 0) (b := 81) dM_unlink_87 fO_M_9 sh_80 rfl rfl (rf_80_0 hS) ?_
    refine wq_bipush (pc := 90) dM_unlink_90 rfl ?_
    refine wq_iload (pc := 92) dM_unlink_92 rfl ?_
    refine wq_iadd (pc := 94) dM_unlink_94 ?_
    refine wq_aload_n (pc := 95) dM_unlink_95 rfl rfl ?_
    refine wq_getR (pc := 96) (z := 0) (b := 81) dM_unlink_96 fO_M_9 sh_80 rfl rfl (rf_80_0 hS) ?_
    refine wq_bipush (pc := 99) dM_unlink_99 rfl ?_
    refine wq_iload (pc := 101) dM_unlink_101 rfl ?_
    refine wq_iadd (pc := 103) dM_unlink_103 ?_
    refine wq_iconst (pc := 104) dM_unlink_104 rfl ?_
    refine wq_iadd (pc := 105) dM_unlink_105 ?_
    refine wq_re (x := (wr (wr (58 + x5) + 3))) (y := (61 + x5)) (by (try simp only [wr_al, wr_ar, wr_sl, wr_sr, wr_ml, wr_mr, wr_nn, wr_ww]); exact Eq.trans (wr_eq (by omega) (by omega)) (by omega)) ?_
    refine wq_iald (pc := 106) dM_unlink_106 sh_81 s3.1 s3.2 ?_
    refine wq_re2 (x := (wr (58 + x5))) (y := (58 + x5)) (Eq.trans (wr_eq (by omega) (by omega)) (by omega)) ?_
    refine wq_iast (pc := 107) dM_unlink_107 sh_81 (by decide) s4.1 s4.2 ?_
    refine wq_iinc (pc := 108) (lo' := [iR 80, iI x1, iI x2, iI x3, iI x4, iI (x5 + 1)]) dM_unlink_108 rfl rfl (by rw [show wr (x5 + 1) = x5 + 1 from (Eq.trans (wr_eq (by omega) (by omega)) (by omega))]; rfl) ?_
    refine wq_goto (pc := 111) (tgt := 73) dM_unlink_111 (by decide) ?_
    exact H

set_option maxRecDepth 20000 in
theorem B_M_unlink_118 {x1 x2 x3 x4 x5 : Int} {M : Mm} {Q : Mm → Option Mv → Prop} (H : Q M (some (vI x4))) : Wq 3 0 0 mM_unlink 118 [iR 80, iI x1, iI x2, iI x3, iI x4, iI x5] [] M Q := by
  refine wq_iload (pc := 118) dM_unlink_118 rfl ?_
  refine wq_ireturn (pc := 120) dM_unlink_120 trivial ?_
  exact H
set_option maxRecDepth 20000 in
theorem B_W_leadsTo_0 {x1 x2 : Int} {M : Mm} {Q : Mm → Option Mv → Prop} (H : Wq 2 0 0 mW_leadsTo 7 [iR 5, iI x1, iI x2, iI (bShl 1 x2), iI 0, none, none] [] M Q) : Wq 2 0 0 mW_leadsTo 0 [iR 5, iI x1, iI x2, none, none, none, none] [] M Q := by
  refine wq_iconst (pc := 0) dW_leadsTo_0 rfl ?_
  refine wq_iload_n (pc := 1) dW_leadsTo_1 rfl rfl ?_
  refine wq_ishl (pc := 2) dW_leadsTo_2 ?_
  refine wq_istore_n (pc := 3) (lo' := [iR 5, iI x1, iI x2, iI (bShl 1 x2), none, none, none]) dW_leadsTo_3 rfl rfl rfl ?_
  refine wq_iconst (pc := 4) dW_leadsTo_4 rfl ?_
  refine wq_istore (pc := 5) (lo' := [iR 5, iI x1, iI x2, iI (bShl 1 x2), iI 0, none, none]) dW_leadsTo_5 rfl rfl ?_
  exact H

set_option maxRecDepth 20000 in
theorem B_W_leadsTo_7 {x1 x2 x3 x4 : Int} {M : Mm} {Q : Mm → Option Mv → Prop} (H : ((gI M 5 6 ≤ x4 → ((0 ≤ x3 ∧ x3 < 2147483648 ∧ 0 ≤ x1 ∧ x1 < 32) ∧ ((hb x3 x1 = true → Q M (some (vI 1))) ∧ (¬ (hb x3 x1 = true) → Q M (some (vI 0)))))) ∧ (¬ gI M 5 6 ≤ x4 → Wq 2 0 0 mW_leadsTo 22 [iR 5, iI x1, iI x2, iI x3, iI x4, iI x3, iI 0] [] M Q))) : Wq 2 0 0 mW_leadsTo 7 [iR 5, iI x1, iI x2, iI x3, iI x4, none, none] [] M Q := by
  refine wq_iload (pc := 7) dW_leadsTo_7 rfl ?_
  refine wq_aload_n (pc := 9) dW_leadsTo_9 rfl rfl ?_
  refine wq_getI (pc := 10) (z := 6) dW_leadsTo_10 fO_W_30 sh_5 rfl rfl ?_
  refine wq_icmp_ge (pc := 13) (tgt := 71) dW_leadsTo_13 (by decide) (fun c1 => ?_) (fun c1 => ?_)
  · have H := H.1 c1
    obtain ⟨s2, H⟩ := H
    refine wq_iload_n (pc := 71) dW_leadsTo_71 rfl rfl ?_
    refine wq_iload_n (pc := 72) dW_leadsTo_72 rfl rfl ?_
    refine wq_callS (d' := 1) (pc := 73) (as := [vI x3, vI x1]) (rest := []) (lo' := [iI x3, iI x1]) dW_leadsTo_73 mO_D_holds lS_W_43 rfl rfl rfl rfl rfl rfl ?_
    refine sp_D_holds s2 (fun c3 => ?_) (fun c3 => ?_)
    · have H := H.1 c3
      show Wq 2 0 0 mW_leadsTo 76 [iR 5, iI x1, iI x2, iI x3, iI x4, none, none] [vI 1] M _
      refine wq_ireturn (pc := 76) dW_leadsTo_76 (Or.inr rfl) ?_
      exact H
    · have H := H.2 c3
      show Wq 2 0 0 mW_leadsTo 76 [iR 5, iI x1, iI x2, iI x3, iI x4, none, none] [vI 0] M _
      refine wq_ireturn (pc := 76) dW_leadsTo_76 (Or.inl rfl) ?_
      exact H
  · have H := H.2 c1
    refine wq_iload_n (pc := 16) dW_leadsTo_16 rfl rfl ?_
    refine wq_istore (pc := 17) (lo' := [iR 5, iI x1, iI x2, iI x3, iI x4, iI x3, none]) dW_leadsTo_17 rfl rfl ?_
    refine wq_iconst (pc := 19) dW_leadsTo_19 rfl ?_
    refine wq_istore (pc := 20) (lo' := [iR 5, iI x1, iI x2, iI x3, iI x4, iI x3, iI 0]) dW_leadsTo_20 rfl rfl ?_
    exact H

set_option maxRecDepth 20000 in
theorem B_W_leadsTo_22 {x1 x2 x3 x4 x5 x6 : Int} {M : Mm} {Q : Mm → Option Mv → Prop} (hS : RefOK M) (H : ((gI M 5 6 ≤ x6 → ((-2147483648 ≤ x4 + 1 ∧ x4 + 1 < 2147483648) ∧ Wq 2 0 0 mW_leadsTo 7 [iR 5, iI x1, iI x2, iI x5, iI (x4 + 1), none, none] [] M Q)) ∧ (¬ gI M 5 6 ≤ x6 → ((0 ≤ x3 ∧ x3 < 2147483648 ∧ 0 ≤ x6 ∧ x6 < 32) ∧ ((hb x3 x6 = true → (((0 ≤ x6 ∧ x6 < 16) ∧ (-2147483648 ≤ x6 + 1 ∧ x6 + 1 < 2147483648)) ∧ Wq 2 0 0 mW_leadsTo 22 [iR 5, iI x1, iI x2, iI x3, iI x4, iI (bOr x5 (gI M 9 x6)), iI (x6 + 1)] [] M Q)) ∧ (¬ (hb x3 x6 = true) → ((-2147483648 ≤ x6 + 1 ∧ x6 + 1 < 2147483648) ∧ Wq 2 0 0 mW_leadsTo 22 [iR 5, iI x1, iI x2, iI x3, iI x4, iI (bOr x5 0), iI (x6 + 1)] [] M Q))))))) : Wq 2 0 0 mW_leadsTo 22 [iR 5, iI x1, iI x2, iI x3, iI x4, iI x5, iI x6] [] M Q := by
  refine wq_iload (pc := 22) dW_leadsTo_22 rfl ?_
  refine wq_aload_n (pc := 24) dW_leadsTo_24 rfl rfl ?_
  refine wq_getI (pc := 25) (z := 6) dW_leadsTo_25 fO_W_30 sh_5 rfl rfl ?_
  refine wq_icmp_ge (pc := 28) (tgt := 62) dW_leadsTo_28 (by decide) (fun c1 => ?_) (fun c1 => ?_)
  · have H := H.1 c1
    obtain ⟨s2, H⟩ := H
    refine wq_iload (pc := 62) dW_leadsTo_62 rfl ?_
    refine wq_istore_n (pc := 64) (lo' := [iR 5, iI x1, iI x2, iI x5, iI x4, iI x5, iI x6]) dW_leadsTo_64 rfl rfl rfl ?_
    refine wq_iinc (pc := 65) (lo' := [iR 5, iI x1, iI x2, iI x5, iI (x4 + 1), iI x5, iI x6]) dW_leadsTo_65 rfl rfl (by rw [show wr (x4 + 1) = x4 + 1 from (Eq.trans (wr_eq (by omega) (by omega)) (by omega))]; rfl) ?_
    refine wq_goto (pc := 68) (tgt := 7) dW_leadsTo_68 (by decide) ?_
    refine wq_drop [5, 6] (lo' := [iR 5, iI x1, iI x2, iI x5, iI (x4 + 1), none, none]) rfl ?_
    exact H
  · have H := H.2 c1
    obtain ⟨s3, H⟩ := H
    refine wq_iload (pc := 31) dW_leadsTo_31 rfl ?_
    refine wq_iload_n (pc := 33) dW_leadsTo_33 rfl rfl ?_
    refine wq_iload (pc := 34) dW_leadsTo_34 rfl ?_
    refine wq_callS (d' := 1) (pc := 36) (as := [vI x3, vI x6]) (rest := [vI x5]) (lo' := [iI x3, iI x6]) dW_leadsTo_36 mO_D_holds lS_W_43 rfl rfl rfl rfl rfl rfl ?_
    refine sp_D_holds s3 (fun c4 => ?_) (fun c4 => ?_)
    · have H := H.1 c4
      show Wq 2 0 0 mW_leadsTo 39 [iR 5, iI x1, iI x2, iI x3, iI x4, iI x5, iI x6] [vI 1, vI x5] M _
      obtain ⟨⟨s5, s6⟩, H⟩ := H
      refine wq_if_eq (pc := 39) (tgt := 52) dW_leadsTo_39 (by decide) (fun q => absurd q (by decide)) (fun _ => ?_)
      refine wq_aload_n (pc := 42) dW_leadsTo_42 rfl rfl ?_
      refine wq_getR (pc := 43) (z := 3) (b := 9) dW_leadsTo_43 fO_W_21 sh_5 rfl rfl (rf_5_3 hS) ?_
      refine wq_iload (pc := 46) dW_leadsTo_46 rfl ?_
      refine wq_iald (pc := 48) dW_leadsTo_48 sh_9 s5.1 s5.2 ?_
      refine wq_goto (pc := 49) (tgt := 53) dW_leadsTo_49 (by decide) ?_
      refine wq_ior (pc := 53) dW_leadsTo_53 ?_
      refine wq_istore (pc := 54) (lo' := [iR 5, iI x1, iI x2, iI x3, iI x4, iI (bOr x5 (gI M 9 x6)), iI x6]) dW_leadsTo_54 rfl rfl ?_
      refine wq_iinc (pc := 56) (lo' := [iR 5, iI x1, iI x2, iI x3, iI x4, iI (bOr x5 (gI M 9 x6)), iI (x6 + 1)]) dW_leadsTo_56 rfl rfl (by rw [show wr (x6 + 1) = x6 + 1 from (Eq.trans (wr_eq (by omega) (by omega)) (by omega))]; rfl) ?_
      refine wq_goto (pc := 59) (tgt := 22) dW_leadsTo_59 (by decide) ?_
      exact H
    · have H := H.2 c4
      show Wq 2 0 0 mW_leadsTo 39 [iR 5, iI x1, iI x2, iI x3, iI x4, iI x5, iI x6] [vI 0, vI x5] M _
      obtain ⟨s7, H⟩ := H
      refine wq_if_eq (pc := 39) (tgt := 52) dW_leadsTo_39 (by decide) (fun _ => ?_) (fun q => absurd (by decide) q)
      refine wq_iconst (pc := 52) dW_leadsTo_52 rfl ?_
      refine wq_ior (pc := 53) dW_leadsTo_53 ?_
      refine wq_istore (pc := 54) (lo' := [iR 5, iI x1, iI x2, iI x3, iI x4, iI (bOr x5 0), iI x6]) dW_leadsTo_54 rfl rfl ?_
      refine wq_iinc (pc := 56) (lo' := [iR 5, iI x1, iI x2, iI x3, iI x4, iI (bOr x5 0), iI (x6 + 1)]) dW_leadsTo_56 rfl rfl (by rw [show wr (x6 + 1) = x6 + 1 from (Eq.trans (wr_eq (by omega) (by omega)) (by omega))]; rfl) ?_
      refine wq_goto (pc := 59) (tgt := 22) dW_leadsTo_59 (by decide) ?_
      exact H
set_option maxRecDepth 20000 in
theorem B_M_leads_0 {x1 x2 : Int} {M : Mm} {Q : Mm → Option Mv → Prop} (H : Wq 2 0 0 mM_leads 7 [iR 80, iI x1, iI x2, iI (bShl 1 x1), iI 0, none] [] M Q) : Wq 2 0 0 mM_leads 0 [iR 80, iI x1, iI x2, none, none, none] [] M Q := by
  refine wq_iconst (pc := 0) dM_leads_0 rfl ?_
  refine wq_iload_n (pc := 1) dM_leads_1 rfl rfl ?_
  refine wq_ishl (pc := 2) dM_leads_2 ?_
  refine wq_istore_n (pc := 3) (lo' := [iR 80, iI x1, iI x2, iI (bShl 1 x1), none, none]) dM_leads_3 rfl rfl rfl ?_
  refine wq_iconst (pc := 4) dM_leads_4 rfl ?_
  refine wq_istore (pc := 5) (lo' := [iR 80, iI x1, iI x2, iI (bShl 1 x1), iI 0, none]) dM_leads_5 rfl rfl ?_
  exact H

set_option maxRecDepth 20000 in
theorem B_M_leads_7 {x1 x2 x3 x4 : Int} {M : Mm} {Q : Mm → Option Mv → Prop} (H : ((16 ≤ x4 → ((0 ≤ x3 ∧ x3 < 2147483648 ∧ 0 ≤ x2 ∧ x2 < 32) ∧ ((hb x3 x2 = true → Q M (some (vI 1))) ∧ (¬ (hb x3 x2 = true) → Q M (some (vI 0)))))) ∧ (¬ 16 ≤ x4 → Wq 2 0 0 mM_leads 17 [iR 80, iI x1, iI x2, iI x3, iI x4, iI 0] [] M Q))) : Wq 2 0 0 mM_leads 7 [iR 80, iI x1, iI x2, iI x3, iI x4, none] [] M Q := by
  refine wq_iload (pc := 7) dM_leads_7 rfl ?_
  refine wq_bipush (pc := 9) dM_leads_9 rfl ?_
  refine wq_icmp_ge (pc := 11) (tgt := 82) dM_leads_11 (by decide) (fun c1 => ?_) (fun c1 => ?_)
  · have H := H.1 c1
    obtain ⟨s2, H⟩ := H
    refine wq_iload_n (pc := 82) dM_leads_82 rfl rfl ?_
    refine wq_iload_n (pc := 83) dM_leads_83 rfl rfl ?_
    refine wq_callS (d' := 1) (pc := 84) (as := [vI x3, vI x2]) (rest := []) (lo' := [iI x3, iI x2]) dM_leads_84 mO_M_has lS_M_102 rfl rfl rfl rfl rfl rfl ?_
    refine sp_M_has s2 (fun c3 => ?_) (fun c3 => ?_)
    · have H := H.1 c3
      show Wq 2 0 0 mM_leads 87 [iR 80, iI x1, iI x2, iI x3, iI x4, none] [vI 1] M _
      refine wq_ireturn (pc := 87) dM_leads_87 (Or.inr rfl) ?_
      exact H
    · have H := H.2 c3
      show Wq 2 0 0 mM_leads 87 [iR 80, iI x1, iI x2, iI x3, iI x4, none] [vI 0] M _
      refine wq_ireturn (pc := 87) dM_leads_87 (Or.inl rfl) ?_
      exact H
  · have H := H.2 c1
    refine wq_iconst (pc := 14) dM_leads_14 rfl ?_
    refine wq_istore (pc := 15) (lo' := [iR 80, iI x1, iI x2, iI x3, iI x4, iI 0]) dM_leads_15 rfl rfl ?_
    exact H

set_option maxRecDepth 20000 in
theorem B_M_leads_17 {x1 x2 x3 x4 x5 : Int} {M : Mm} {Q : Mm → Option Mv → Prop} (hS : RefOK M) (H : ((gI M 81 3 ≤ x5 → ((-2147483648 ≤ x4 + 1 ∧ x4 + 1 < 2147483648) ∧ Wq 2 0 0 mM_leads 7 [iR 80, iI x1, iI x2, iI x3, iI (x4 + 1), none] [] M Q)) ∧ (¬ gI M 81 3 ≤ x5 → (((0 ≤ 58 + 3 * x5 ∧ 58 + 3 * x5 < 1993) ∧ (0 ≤ x3 ∧ x3 < 2147483648 ∧ 0 ≤ gI M 81 (58 + 3 * x5) ∧ gI M 81 (58 + 3 * x5) < 32)) ∧ ((hb x3 (gI M 81 (58 + 3 * x5)) = true → (((0 ≤ 59 + 3 * x5 ∧ 59 + 3 * x5 < 1993) ∧ (-2147483648 ≤ x5 + 1 ∧ x5 + 1 < 2147483648)) ∧ Wq 2 0 0 mM_leads 17 [iR 80, iI x1, iI x2, iI (bOr x3 (bShl 1 (gI M 81 (59 + 3 * x5)))), iI x4, iI (x5 + 1)] [] M Q)) ∧ (¬ (hb x3 (gI M 81 (58 + 3 * x5)) = true) → ((-2147483648 ≤ x5 + 1 ∧ x5 + 1 < 2147483648) ∧ Wq 2 0 0 mM_leads 17 [iR 80, iI x1, iI x2, iI (bOr x3 0), iI x4, iI (x5 + 1)] [] M Q))))))) : Wq 2 0 0 mM_leads 17 [iR 80, iI x1, iI x2, iI x3, iI x4, iI x5] [] M Q := by
  refine wq_iload (pc := 17) dM_leads_17 rfl ?_
  refine wq_aload_n (pc := 19) dM_leads_19 rfl rfl ?_
  refine wq_getR (pc := 20) (z := 0) (b := 81) dM_leads_20 fO_M_9 sh_80 rfl rfl (rf_80_0 hS) ?_
  refine wq_iconst (pc := 23) dM_leads_23 rfl ?_
  refine wq_iald (pc := 24) dM_leads_24 sh_81 (by decide) (by decide) ?_
  refine wq_icmp_ge (pc := 25) (tgt := 76) dM_leads_25 (by decide) (fun c1 => ?_) (fun c1 => ?_)
  · have H := H.1 c1
    obtain ⟨s2, H⟩ := H
    refine wq_iinc (pc := 76) (lo' := [iR 80, iI x1, iI x2, iI x3, iI (x4 + 1), iI x5]) dM_leads_76 rfl rfl (by rw [show wr (x4 + 1) = x4 + 1 from (Eq.trans (wr_eq (by omega) (by omega)) (by omega))]; rfl) ?_
    refine wq_goto (pc := 79) (tgt := 7) dM_leads_79 (by decide) ?_
    refine wq_drop [5] (lo' := [iR 80, iI x1, iI x2, iI x3, iI (x4 + 1), none]) rfl ?_
    exact H
  · have H := H.2 c1
    obtain ⟨⟨s3, s4⟩, H⟩ := H
    refine wq_iload_n (pc := 28) dM_leads_28 rfl rfl ?_
    refine wq_iload_n (pc := 29) dM_leads_29 rfl rfl ?_
    refine wq_aload_n (pc := 30) dM_leads_30 rfl rfl ?_
    refine wq_getR (pc := 31) (z := 0) (b := 81) dM_leads_31 fO_M_9 sh_80 rfl rfl (rf_80_0 hS) ?_
    refine wq_bipush (pc := 34) dM_leads_34 rfl ?_
    refine wq_iconst (pc := 36) dM_leads_36 rfl ?_
    refine wq_iload (pc := 37) dM_leads_37 rfl ?_
    refine wq_imul (pc := 39) dM_leads_39 ?_
    refine wq_iadd (pc := 40) dM_leads_40 ?_
    refine wq_re (x := (wr (58 + wr (3 * x5)))) (y := (58 + 3 * x5)) (by (try simp only [wr_al, wr_ar, wr_sl, wr_sr, wr_ml, wr_mr, wr_nn, wr_ww]); exact Eq.trans (wr_eq (by omega) (by omega)) (by omega)) ?_
    refine wq_iald (pc := 41) dM_leads_41 sh_81 s3.1 s3.2 ?_
    refine wq_callS (d' := 1) (pc := 42) (as := [vI x3, vI (gI M 81 (58 + 3 * x5))]) (rest := [vI x3]) (lo' := [iI x3, iI (gI M 81 (58 + 3 * x5))]) dM_leads_42 mO_M_has lS_M_102 rfl rfl rfl rfl rfl rfl ?_
    refine sp_M_has s4 (fun c5 => ?_) (fun c5 => ?_)
    · have H := H.1 c5
      show Wq 2 0 0 mM_leads 45 [iR 80, iI x1, iI x2, iI x3, iI x4, iI x5] [vI 1, vI x3] M _
      obtain ⟨⟨s6, s7⟩, H⟩ := H
      refine wq_if_eq (pc := 45) (tgt := 67) dM_leads_45 (by decide) (fun q => absurd q (by decide)) (fun _ => ?_)
      refine wq_iconst (pc := 48) dM_leads_48 rfl ?_
      refine wq_aload_n (pc := 49) dM_leads_49 rfl rfl ?_
      refine wq_getR (pc := 50) (z := 0) (b := 81) dM_leads_50 fO_M_9 sh_80 rfl rfl (rf_80_0 hS) ?_
      refine wq_bipush (pc := 53) dM_leads_53 rfl ?_
      refine wq_iconst (pc := 55) dM_leads_55 rfl ?_
      refine wq_iload (pc := 56) dM_leads_56 rfl ?_
      refine wq_imul (pc := 58) dM_leads_58 ?_
      refine wq_iadd (pc := 59) dM_leads_59 ?_
      refine wq_iconst (pc := 60) dM_leads_60 rfl ?_
      refine wq_iadd (pc := 61) dM_leads_61 ?_
      refine wq_re (x := (wr (wr (58 + wr (3 * x5)) + 1))) (y := (59 + 3 * x5)) (by (try simp only [wr_al, wr_ar, wr_sl, wr_sr, wr_ml, wr_mr, wr_nn, wr_ww]); exact Eq.trans (wr_eq (by omega) (by omega)) (by omega)) ?_
      refine wq_iald (pc := 62) dM_leads_62 sh_81 s6.1 s6.2 ?_
      refine wq_ishl (pc := 63) dM_leads_63 ?_
      refine wq_goto (pc := 64) (tgt := 68) dM_leads_64 (by decide) ?_
      refine wq_ior (pc := 68) dM_leads_68 ?_
      refine wq_istore_n (pc := 69) (lo' := [iR 80, iI x1, iI x2, iI (bOr x3 (bShl 1 (gI M 81 (59 + 3 * x5)))), iI x4, iI x5]) dM_leads_69 rfl rfl rfl ?_
      refine wq_iinc (pc := 70) (lo' := [iR 80, iI x1, iI x2, iI (bOr x3 (bShl 1 (gI M 81 (59 + 3 * x5)))), iI x4, iI (x5 + 1)]) dM_leads_70 rfl rfl (by rw [show wr (x5 + 1) = x5 + 1 from (Eq.trans (wr_eq (by omega) (by omega)) (by omega))]; rfl) ?_
      refine wq_goto (pc := 73) (tgt := 17) dM_leads_73 (by decide) ?_
      exact H
    · have H := H.2 c5
      show Wq 2 0 0 mM_leads 45 [iR 80, iI x1, iI x2, iI x3, iI x4, iI x5] [vI 0, vI x3] M _
      obtain ⟨s8, H⟩ := H
      refine wq_if_eq (pc := 45) (tgt := 67) dM_leads_45 (by decide) (fun _ => ?_) (fun q => absurd (by decide) q)
      refine wq_iconst (pc := 67) dM_leads_67 rfl ?_
      refine wq_ior (pc := 68) dM_leads_68 ?_
      refine wq_istore_n (pc := 69) (lo' := [iR 80, iI x1, iI x2, iI (bOr x3 0), iI x4, iI x5]) dM_leads_69 rfl rfl rfl ?_
      refine wq_iinc (pc := 70) (lo' := [iR 80, iI x1, iI x2, iI (bOr x3 0), iI x4, iI (x5 + 1)]) dM_leads_70 rfl rfl (by rw [show wr (x5 + 1) = x5 + 1 from (Eq.trans (wr_eq (by omega) (by omega)) (by omega))]; rfl) ?_
      refine wq_goto (pc := 73) (tgt := 17) dM_leads_73 (by decide) ?_
      exact H
set_option maxRecDepth 20000 in
theorem B_M_linkAt_0 {x1 x2 : Int} {M : Mm} {Q : Mm → Option Mv → Prop} (H : Wq 1 0 0 mM_linkAt 2 [iR 80, iI x1, iI x2, iI 0] [] M Q) : Wq 1 0 0 mM_linkAt 0 [iR 80, iI x1, iI x2, none] [] M Q := by
  refine wq_iconst (pc := 0) dM_linkAt_0 rfl ?_
  refine wq_istore_n (pc := 1) (lo' := [iR 80, iI x1, iI x2, iI 0]) dM_linkAt_1 rfl rfl rfl ?_
  exact H

set_option maxRecDepth 20000 in
theorem B_M_linkAt_2 {x1 x2 x3 : Int} {M : Mm} {Q : Mm → Option Mv → Prop} (hS : RefOK M) (H : ((gI M 81 3 ≤ x3 → Q M (some (vI (-1)))) ∧ (¬ gI M 81 3 ≤ x3 → ((0 ≤ 58 + 3 * x3 ∧ 58 + 3 * x3 < 1993) ∧ ((¬ gI M 81 (58 + 3 * x3) = x1 → ((-2147483648 ≤ x3 + 1 ∧ x3 + 1 < 2147483648) ∧ Wq 1 0 0 mM_linkAt 2 [iR 80, iI x1, iI x2, iI (x3 + 1)] [] M Q)) ∧ (gI M 81 (58 + 3 * x3) = x1 → ((0 ≤ 59 + 3 * x3 ∧ 59 + 3 * x3 < 1993) ∧ ((¬ gI M 81 (59 + 3 * x3) = x2 → ((-2147483648 ≤ x3 + 1 ∧ x3 + 1 < 2147483648) ∧ Wq 1 0 0 mM_linkAt 2 [iR 80, iI x1, iI x2, iI (x3 + 1)] [] M Q)) ∧ (gI M 81 (59 + 3 * x3) = x2 → Q M (some (vI x3))))))))))) : Wq 1 0 0 mM_linkAt 2 [iR 80, iI x1, iI x2, iI x3] [] M Q := by
  refine wq_iload_n (pc := 2) dM_linkAt_2 rfl rfl ?_
  refine wq_aload_n (pc := 3) dM_linkAt_3 rfl rfl ?_
  refine wq_getR (pc := 4) (z := 0) (b := 81) dM_linkAt_4 fO_M_9 sh_80 rfl rfl (rf_80_0 hS) ?_
  refine wq_iconst (pc := 7) dM_linkAt_7 rfl ?_
  refine wq_iald (pc := 8) dM_linkAt_8 sh_81 (by decide) (by decide) ?_
  refine wq_icmp_ge (pc := 9) (tgt := 52) dM_linkAt_9 (by decide) (fun c1 => ?_) (fun c1 => ?_)
  · have H := H.1 c1
    refine wq_iconst (pc := 52) dM_linkAt_52 rfl ?_
    refine wq_ireturn (pc := 53) dM_linkAt_53 trivial ?_
    exact H
  · have H := H.2 c1
    obtain ⟨s2, H⟩ := H
    refine wq_aload_n (pc := 12) dM_linkAt_12 rfl rfl ?_
    refine wq_getR (pc := 13) (z := 0) (b := 81) dM_linkAt_13 fO_M_9 sh_80 rfl rfl (rf_80_0 hS) ?_
    refine wq_bipush (pc := 16) dM_linkAt_16 rfl ?_
    refine wq_iconst (pc := 18) dM_linkAt_18 rfl ?_
    refine wq_iload_n (pc := 19) dM_linkAt_19 rfl rfl ?_
    refine wq_imul (pc := 20) dM_linkAt_20 ?_
    refine wq_iadd (pc := 21) dM_linkAt_21 ?_
    refine wq_re (x := (wr (58 + wr (3 * x3)))) (y := (58 + 3 * x3)) (by (try simp only [wr_al, wr_ar, wr_sl, wr_sr, wr_ml, wr_mr, wr_nn, wr_ww]); exact Eq.trans (wr_eq (by omega) (by omega)) (by omega)) ?_
    refine wq_iald (pc := 22) dM_linkAt_22 sh_81 s2.1 s2.2 ?_
    refine wq_iload_n (pc := 23) dM_linkAt_23 rfl rfl ?_
    refine wq_icmp_ne (pc := 24) (tgt := 46) dM_linkAt_24 (by decide) (fun c3 => ?_) (fun c3 => ?_)
    · have H := H.1 c3
      obtain ⟨s4, H⟩ := H
      refine wq_iinc (pc := 46) (lo' := [iR 80, iI x1, iI x2, iI (x3 + 1)]) dM_linkAt_46 rfl rfl (by rw [show wr (x3 + 1) = x3 + 1 from (Eq.trans (wr_eq (by omega) (by omega)) (by omega))]; rfl) ?_
      refine wq_goto (pc := 49) (tgt := 2) dM_linkAt_49 (by decide) ?_
      exact H
    · have H := H.2 c3
      obtain ⟨s5, H⟩ := H
      refine wq_aload_n (pc := 27) dM_linkAt_27 rfl rfl ?_
      refine wq_getR (pc := 28) (z := 0) (b := 81) dM_linkAt_28 fO_M_9 sh_80 rfl rfl (rf_80_0 hS) ?_
      refine wq_bipush (pc := 31) dM_linkAt_31 rfl ?_
      refine wq_iconst (pc := 33) dM_linkAt_33 rfl ?_
      refine wq_iload_n (pc := 34) dM_linkAt_34 rfl rfl ?_
      refine wq_imul (pc := 35) dM_linkAt_35 ?_
      refine wq_iadd (pc := 36) dM_linkAt_36 ?_
      refine wq_iconst (pc := 37) dM_linkAt_37 rfl ?_
      refine wq_iadd (pc := 38) dM_linkAt_38 ?_
      refine wq_re (x := (wr (wr (58 + wr (3 * x3)) + 1))) (y := (59 + 3 * x3)) (by (try simp only [wr_al, wr_ar, wr_sl, wr_sr, wr_ml, wr_mr, wr_nn, wr_ww]); exact Eq.trans (wr_eq (by omega) (by omega)) (by omega)) ?_
      refine wq_iald (pc := 39) dM_linkAt_39 sh_81 s5.1 s5.2 ?_
      refine wq_iload_n (pc := 40) dM_linkAt_40 rfl rfl ?_
      refine wq_icmp_ne (pc := 41) (tgt := 46) dM_linkAt_41 (by decide) (fun c6 => ?_) (fun c6 => ?_)
      · have H := H.1 c6
        obtain ⟨s7, H⟩ := H
        refine wq_iinc (pc := 46) (lo' := [iR 80, iI x1, iI x2, iI (x3 + 1)]) dM_linkAt_46 rfl rfl (by rw [show wr (x3 + 1) = x3 + 1 from (Eq.trans (wr_eq (by omega) (by omega)) (by omega))]; rfl) ?_
        refine wq_goto (pc := 49) (tgt := 2) dM_linkAt_49 (by decide) ?_
        exact H
      · have H := H.2 c6
        refine wq_iload_n (pc := 44) dM_linkAt_44 rfl rfl ?_
        refine wq_ireturn (pc := 45) dM_linkAt_45 trivial ?_
        exact H
set_option maxRecDepth 20000 in
theorem B_W_join_0 {x1 x2 x3 : Int} {M : Mm} {Q : Mm → Option Mv → Prop} (hS : RefOK M) (H : (((0 ≤ x2 ∧ x2 < 16) ∧ (0 ≤ x1 * 16 + x2 ∧ x1 * 16 + x2 < 256) ∧ (-2147483648 ≤ gI M 5 7 + 1 ∧ gI M 5 7 + 1 < 2147483648)) ∧ Wq 3 0 0 mW_arrange 0 [iR 5, none, none, none] [] (sI (sI (sI M 9 x2 (bOr (gI M 9 x2) (bShl 1 x1))) 10 (x1 * 16 + x2) x3) 5 7 (gI M 5 7 + 1)) (fun M' v => Wq 4 0 0 mW_join 38 [iR 5, iI x1, iI x2, iI x3] (v.toList ++ []) M' Q))) : Wq 4 0 0 mW_join 0 [iR 5, iI x1, iI x2, iI x3] [] M Q := by
  obtain ⟨⟨s1, s2, s3⟩, H⟩ := H
  refine wq_aload_n (pc := 0) dW_join_0 rfl rfl ?_
  refine wq_getR (pc := 1) (z := 3) (b := 9) dW_join_1 fO_W_21 sh_5 rfl rfl (rf_5_3 hS) ?_
  refine wq_iload_n (pc := 4) dW_join_4 rfl rfl ?_
  refine wq_dup2 (pc := 5) dW_join_5 rfl rfl ?_
  refine wq_iald (pc := 6) dW_join_6 sh_9 s1.1 s1.2 ?_
  refine wq_iconst (pc := 7) dW_join_7 rfl ?_
  refine wq_iload_n (pc := 8) dW_join_8 rfl rfl ?_
  refine wq_ishl (pc := 9) dW_join_9 ?_
  refine wq_ior (pc := 10) dW_join_10 ?_
  refine wq_iast (pc := 11) dW_join_11 sh_9 (by decide) s1.1 s1.2 ?_
  refine wq_aload_n (pc := 12) dW_join_12 rfl rfl ?_
  refine wq_getR (pc := 13) (z := 4) (b := 10) dW_join_13 fO_W_24 sh_5 rfl rfl (rf_5_4 hS) ?_
  refine wq_iload_n (pc := 16) dW_join_16 rfl rfl ?_
  refine wq_bipush (pc := 17) dW_join_17 rfl ?_
  refine wq_imul (pc := 19) dW_join_19 ?_
  refine wq_iload_n (pc := 20) dW_join_20 rfl rfl ?_
  refine wq_iadd (pc := 21) dW_join_21 ?_
  refine wq_iload_n (pc := 22) dW_join_22 rfl rfl ?_
  refine wq_re2 (x := (wr (wr (x1 * 16) + x2))) (y := (x1 * 16 + x2)) (by (try simp only [wr_al, wr_ar, wr_sl, wr_sr, wr_ml, wr_mr, wr_nn, wr_ww]); exact Eq.trans (wr_eq (by omega) (by omega)) (by omega)) ?_
  refine wq_iast (pc := 23) dW_join_23 sh_10 (by decide) s2.1 s2.2 ?_
  refine wq_aload_n (pc := 24) dW_join_24 rfl rfl ?_
  refine wq_dup (pc := 25) dW_join_25 rfl ?_
  refine wq_getI (pc := 26) (z := 7) dW_join_26 fO_W_34 sh_5 rfl rfl ?_
  refine wq_re (x := (gI (sI (sI M 9 x2 (bOr (gI M 9 x2) (bShl 1 x1))) 10 (x1 * 16 + x2) x3) 5 7)) (y := (gI M 5 7)) rfl ?_
  refine wq_iconst (pc := 29) dW_join_29 rfl ?_
  refine wq_iadd (pc := 30) dW_join_30 ?_
  refine wq_re (x := (wr (gI M 5 7 + 1))) (y := (gI M 5 7 + 1)) (Eq.trans (wr_eq (by omega) (by omega)) (by omega)) ?_
  refine wq_putI (pc := 31) (z := 7) dW_join_31 fW_W_34 sh_5 rfl rfl ?_
  refine wq_aload_n (pc := 34) dW_join_34 rfl rfl ?_
  refine wq_callV (d' := 3) (pc := 35) (as := []) (rest := []) (lo' := [iR 5, none, none, none]) dW_join_35 mO_W_arrange lV_W_47 sh_5 (by decide) cl_9 rfl rfl rfl rfl rfl rfl ?_
  exact H

set_option maxRecDepth 20000 in
theorem B_W_join_38 {x1 x2 x3 : Int} {M : Mm} {Q : Mm → Option Mv → Prop} (H : Q M (some (vI (gI M 5 7)))) : Wq 4 0 0 mW_join 38 [iR 5, iI x1, iI x2, iI x3] [] M Q := by
  refine wq_aload_n (pc := 38) dW_join_38 rfl rfl ?_
  refine wq_getI (pc := 39) (z := 7) dW_join_39 fO_W_34 sh_5 rfl rfl ?_
  refine wq_ireturn (pc := 42) dW_join_42 trivial ?_
  exact H
set_option maxRecDepth 20000 in
theorem B_W_loosen_0 {x1 x2 : Int} {M : Mm} {Q : Mm → Option Mv → Prop} (hS : RefOK M) (H : (((0 ≤ x2 ∧ x2 < 16) ∧ (-2147483648 ≤ gI M 5 7 - 1 ∧ gI M 5 7 - 1 < 2147483648) ∧ (0 ≤ x1 * 16 + x2 ∧ x1 * 16 + x2 < 256)) ∧ Q (sI (sI M 9 x2 (bAnd (gI M 9 x2) (bXor (bShl 1 x1) (-1)))) 5 7 (gI M 5 7 - 1)) (some (vI (gI M 10 (x1 * 16 + x2)))))) : Wq 1 0 0 mW_loosen 0 [iR 5, iI x1, iI x2] [] M Q := by
  obtain ⟨⟨s1, s2, s3⟩, H⟩ := H
  refine wq_aload_n (pc := 0) dW_loosen_0 rfl rfl ?_
  refine wq_getR (pc := 1) (z := 3) (b := 9) dW_loosen_1 fO_W_21 sh_5 rfl rfl (rf_5_3 hS) ?_
  refine wq_iload_n (pc := 4) dW_loosen_4 rfl rfl ?_
  refine wq_dup2 (pc := 5) dW_loosen_5 rfl rfl ?_
  refine wq_iald (pc := 6) dW_loosen_6 sh_9 s1.1 s1.2 ?_
  refine wq_iconst (pc := 7) dW_loosen_7 rfl ?_
  refine wq_iload_n (pc := 8) dW_loosen_8 rfl rfl ?_
  refine wq_ishl (pc := 9) dW_loosen_9 ?_
  refine wq_iconst (pc := 10) dW_loosen_10 rfl ?_
  refine wq_ixor (pc := 11) dW_loosen_11 ?_
  refine wq_iand (pc := 12) dW_loosen_12 ?_
  refine wq_iast (pc := 13) dW_loosen_13 sh_9 (by decide) s1.1 s1.2 ?_
  refine wq_aload_n (pc := 14) dW_loosen_14 rfl rfl ?_
  refine wq_dup (pc := 15) dW_loosen_15 rfl ?_
  refine wq_getI (pc := 16) (z := 7) dW_loosen_16 fO_W_34 sh_5 rfl rfl ?_
  refine wq_re (x := (gI (sI M 9 x2 (bAnd (gI M 9 x2) (bXor (bShl 1 x1) (-1)))) 5 7)) (y := (gI M 5 7)) rfl ?_
  refine wq_iconst (pc := 19) dW_loosen_19 rfl ?_
  refine wq_isub (pc := 20) dW_loosen_20 ?_
  refine wq_re (x := (wr (gI M 5 7 - 1))) (y := (gI M 5 7 - 1)) (Eq.trans (wr_eq (by omega) (by omega)) (by omega)) ?_
  refine wq_putI (pc := 21) (z := 7) dW_loosen_21 fW_W_34 sh_5 rfl rfl ?_
  refine wq_aload_n (pc := 24) dW_loosen_24 rfl rfl ?_
  refine wq_getR (pc := 25) (z := 4) (b := 10) dW_loosen_25 fO_W_24 sh_5 rfl rfl (rf_5_4 hS) ?_
  refine wq_iload_n (pc := 28) dW_loosen_28 rfl rfl ?_
  refine wq_bipush (pc := 29) dW_loosen_29 rfl ?_
  refine wq_imul (pc := 31) dW_loosen_31 ?_
  refine wq_iload_n (pc := 32) dW_loosen_32 rfl rfl ?_
  refine wq_iadd (pc := 33) dW_loosen_33 ?_
  refine wq_re (x := (wr (wr (x1 * 16) + x2))) (y := (x1 * 16 + x2)) (by (try simp only [wr_al, wr_ar, wr_sl, wr_sr, wr_ml, wr_mr, wr_nn, wr_ww]); exact Eq.trans (wr_eq (by omega) (by omega)) (by omega)) ?_
  refine wq_iald (pc := 34) dW_loosen_34 sh_10 s3.1 s3.2 ?_
  refine wq_re (x := (gI (sI (sI M 9 x2 (bAnd (gI M 9 x2) (bXor (bShl 1 x1) (-1)))) 5 7 (gI M 5 7 - 1)) 10 (x1 * 16 + x2))) (y := (gI M 10 (x1 * 16 + x2))) rfl ?_
  refine wq_ireturn (pc := 35) dW_loosen_35 trivial ?_
  exact H
set_option maxRecDepth 20000 in
theorem B_W_arrange_0 {M : Mm} {Q : Mm → Option Mv → Prop} (H : Wq 3 0 0 mW_arrange 4 [iR 5, iI 0, iI 0, none] [] M Q) : Wq 3 0 0 mW_arrange 0 [iR 5, none, none, none] [] M Q := by
  refine wq_iconst (pc := 0) dW_arrange_0 rfl ?_
  refine wq_istore_n (pc := 1) (lo' := [iR 5, iI 0, none, none]) dW_arrange_1 rfl rfl rfl ?_
  refine wq_iconst (pc := 2) dW_arrange_2 rfl ?_
  refine wq_istore_n (pc := 3) (lo' := [iR 5, iI 0, iI 0, none]) dW_arrange_3 rfl rfl rfl ?_
  exact H

set_option maxRecDepth 20000 in
theorem B_W_arrange_4 {x1 x2 : Int} {M : Mm} {Q : Mm → Option Mv → Prop} (H : ((gI M 5 6 ≤ x2 → Q M none) ∧ (¬ gI M 5 6 ≤ x2 → Wq 2 0 0 mW_nextAfter 0 [iR 5, iI x1, none] [] M (fun M' v => Wq 3 0 0 mW_arrange 17 [iR 5, iI x1, iI x2, none] (v.toList ++ []) M' Q)))) : Wq 3 0 0 mW_arrange 4 [iR 5, iI x1, iI x2, none] [] M Q := by
  refine wq_iload_n (pc := 4) dW_arrange_4 rfl rfl ?_
  refine wq_aload_n (pc := 5) dW_arrange_5 rfl rfl ?_
  refine wq_getI (pc := 6) (z := 6) dW_arrange_6 fO_W_30 sh_5 rfl rfl ?_
  refine wq_icmp_ge (pc := 9) (tgt := 37) dW_arrange_9 (by decide) (fun c1 => ?_) (fun c1 => ?_)
  · have H := H.1 c1
    refine wq_return (pc := 37) dW_arrange_37 trivial ?_
    exact H
  · have H := H.2 c1
    refine wq_aload_n (pc := 12) dW_arrange_12 rfl rfl ?_
    refine wq_iload_n (pc := 13) dW_arrange_13 rfl rfl ?_
    refine wq_callV (d' := 2) (pc := 14) (as := [vI x1]) (rest := []) (lo' := [iR 5, iI x1, none]) dW_arrange_14 mO_W_nextAfter lV_W_56 sh_5 (by decide) cl_9 rfl rfl rfl rfl rfl rfl ?_
    exact H

set_option maxRecDepth 20000 in
theorem B_W_arrange_17 {x1 x2 y0 : Int} {M : Mm} {Q : Mm → Option Mv → Prop} (hS : RefOK M) (H : (((0 ≤ x2 ∧ x2 < 16) ∧ (-2147483648 ≤ x2 + 1 ∧ x2 + 1 < 2147483648)) ∧ Wq 3 0 0 mW_arrange 4 [iR 5, iI (bOr x1 (bShl 1 y0)), iI (x2 + 1), none] [] (sI M 11 x2 y0) Q)) : Wq 3 0 0 mW_arrange 17 [iR 5, iI x1, iI x2, none] [vI y0] M Q := by
  obtain ⟨⟨s1, s2⟩, H⟩ := H
  refine wq_istore_n (pc := 17) (lo' := [iR 5, iI x1, iI x2, iI y0]) dW_arrange_17 rfl rfl rfl ?_
  refine wq_aload_n (pc := 18) dW_arrange_18 rfl rfl ?_
  refine wq_getR (pc := 19) (z := 5) (b := 11) dW_arrange_19 fO_W_27 sh_5 rfl rfl (rf_5_5 hS) ?_
  refine wq_iload_n (pc := 22) dW_arrange_22 rfl rfl ?_
  refine wq_iload_n (pc := 23) dW_arrange_23 rfl rfl ?_
  refine wq_iast (pc := 24) dW_arrange_24 sh_11 (by decide) s1.1 s1.2 ?_
  refine wq_iload_n (pc := 25) dW_arrange_25 rfl rfl ?_
  refine wq_iconst (pc := 26) dW_arrange_26 rfl ?_
  refine wq_iload_n (pc := 27) dW_arrange_27 rfl rfl ?_
  refine wq_ishl (pc := 28) dW_arrange_28 ?_
  refine wq_ior (pc := 29) dW_arrange_29 ?_
  refine wq_istore_n (pc := 30) (lo' := [iR 5, iI (bOr x1 (bShl 1 y0)), iI x2, iI y0]) dW_arrange_30 rfl rfl rfl ?_
  refine wq_iinc (pc := 31) (lo' := [iR 5, iI (bOr x1 (bShl 1 y0)), iI (x2 + 1), iI y0]) dW_arrange_31 rfl rfl (by rw [show wr (x2 + 1) = x2 + 1 from (Eq.trans (wr_eq (by omega) (by omega)) (by omega))]; rfl) ?_
  refine wq_goto (pc := 34) (tgt := 4) dW_arrange_34 (by decide) ?_
  refine wq_drop [3] (lo' := [iR 5, iI (bOr x1 (bShl 1 y0)), iI (x2 + 1), none]) rfl ?_
  exact H
set_option maxRecDepth 20000 in
theorem B_W_nextAfter_0 {x1 : Int} {M : Mm} {Q : Mm → Option Mv → Prop} (H : Wq 2 0 0 mW_nextAfter 2 [iR 5, iI x1, iI 0] [] M Q) : Wq 2 0 0 mW_nextAfter 0 [iR 5, iI x1, none] [] M Q := by
  refine wq_iconst (pc := 0) dW_nextAfter_0 rfl ?_
  refine wq_istore_n (pc := 1) (lo' := [iR 5, iI x1, iI 0]) dW_nextAfter_1 rfl rfl rfl ?_
  exact H

set_option maxRecDepth 20000 in
theorem B_W_nextAfter_2 {x1 x2 : Int} {M : Mm} {Q : Mm → Option Mv → Prop} (hS : RefOK M) (H : ((gI M 5 6 ≤ x2 → Q M (some (vI 0))) ∧ (¬ gI M 5 6 ≤ x2 → ((0 ≤ x1 ∧ x1 < 2147483648 ∧ 0 ≤ x2 ∧ x2 < 32) ∧ ((hb x1 x2 = true → ((-2147483648 ≤ x2 + 1 ∧ x2 + 1 < 2147483648) ∧ Wq 2 0 0 mW_nextAfter 2 [iR 5, iI x1, iI (x2 + 1)] [] M Q)) ∧ (¬ (hb x1 x2 = true) → ((0 ≤ x2 ∧ x2 < 16) ∧ ((¬ bAnd (gI M 9 x2) (bXor x1 (-1)) = 0 → ((-2147483648 ≤ x2 + 1 ∧ x2 + 1 < 2147483648) ∧ Wq 2 0 0 mW_nextAfter 2 [iR 5, iI x1, iI (x2 + 1)] [] M Q)) ∧ (bAnd (gI M 9 x2) (bXor x1 (-1)) = 0 → Q M (some (vI x2))))))))))) : Wq 2 0 0 mW_nextAfter 2 [iR 5, iI x1, iI x2] [] M Q := by
  refine wq_iload_n (pc := 2) dW_nextAfter_2 rfl rfl ?_
  refine wq_aload_n (pc := 3) dW_nextAfter_3 rfl rfl ?_
  refine wq_getI (pc := 4) (z := 6) dW_nextAfter_4 fO_W_30 sh_5 rfl rfl ?_
  refine wq_icmp_ge (pc := 7) (tgt := 39) dW_nextAfter_7 (by decide) (fun c1 => ?_) (fun c1 => ?_)
  · have H := H.1 c1
    refine wq_iconst (pc := 39) dW_nextAfter_39 rfl ?_
    refine wq_ireturn (pc := 40) dW_nextAfter_40 trivial ?_
    exact H
  · have H := H.2 c1
    obtain ⟨s2, H⟩ := H
    refine wq_iload_n (pc := 10) dW_nextAfter_10 rfl rfl ?_
    refine wq_iload_n (pc := 11) dW_nextAfter_11 rfl rfl ?_
    refine wq_callS (d' := 1) (pc := 12) (as := [vI x1, vI x2]) (rest := []) (lo' := [iI x1, iI x2]) dW_nextAfter_12 mO_D_holds lS_W_43 rfl rfl rfl rfl rfl rfl ?_
    refine sp_D_holds s2 (fun c3 => ?_) (fun c3 => ?_)
    · have H := H.1 c3
      show Wq 2 0 0 mW_nextAfter 15 [iR 5, iI x1, iI x2] [vI 1] M _
      obtain ⟨s4, H⟩ := H
      refine wq_if_ne (pc := 15) (tgt := 33) dW_nextAfter_15 (by decide) (fun _ => ?_) (fun q => absurd q (by decide))
      refine wq_iinc (pc := 33) (lo' := [iR 5, iI x1, iI (x2 + 1)]) dW_nextAfter_33 rfl rfl (by rw [show wr (x2 + 1) = x2 + 1 from (Eq.trans (wr_eq (by omega) (by omega)) (by omega))]; rfl) ?_
      refine wq_goto (pc := 36) (tgt := 2) dW_nextAfter_36 (by decide) ?_
      exact H
    · have H := H.2 c3
      show Wq 2 0 0 mW_nextAfter 15 [iR 5, iI x1, iI x2] [vI 0] M _
      obtain ⟨s5, H⟩ := H
      refine wq_if_ne (pc := 15) (tgt := 33) dW_nextAfter_15 (by decide) (fun q => absurd q (by decide)) (fun _ => ?_)
      refine wq_aload_n (pc := 18) dW_nextAfter_18 rfl rfl ?_
      refine wq_getR (pc := 19) (z := 3) (b := 9) dW_nextAfter_19 fO_W_21 sh_5 rfl rfl (rf_5_3 hS) ?_
      refine wq_iload_n (pc := 22) dW_nextAfter_22 rfl rfl ?_
      refine wq_iald (pc := 23) dW_nextAfter_23 sh_9 s5.1 s5.2 ?_
      refine wq_iload_n (pc := 24) dW_nextAfter_24 rfl rfl ?_
      refine wq_iconst (pc := 25) dW_nextAfter_25 rfl ?_
      refine wq_ixor (pc := 26) dW_nextAfter_26 ?_
      refine wq_iand (pc := 27) dW_nextAfter_27 ?_
      refine wq_if_ne (pc := 28) (tgt := 33) dW_nextAfter_28 (by decide) (fun c6 => ?_) (fun c6 => ?_)
      · have H := H.1 c6
        obtain ⟨s7, H⟩ := H
        refine wq_iinc (pc := 33) (lo' := [iR 5, iI x1, iI (x2 + 1)]) dW_nextAfter_33 rfl rfl (by rw [show wr (x2 + 1) = x2 + 1 from (Eq.trans (wr_eq (by omega) (by omega)) (by omega))]; rfl) ?_
        refine wq_goto (pc := 36) (tgt := 2) dW_nextAfter_36 (by decide) ?_
        exact H
      · have H := H.2 c6
        refine wq_iload_n (pc := 31) dW_nextAfter_31 rfl rfl ?_
        refine wq_ireturn (pc := 32) dW_nextAfter_32 trivial ?_
        exact H
set_option maxRecDepth 20000 in
theorem B_M_sort_0 {M : Mm} {Q : Mm → Option Mv → Prop} (H : Wq 2 0 0 mM_sort 4 [iR 80, iI 0, iI 0, none, none, none] [] M Q) : Wq 2 0 0 mM_sort 0 [iR 80, none, none, none, none, none] [] M Q := by
  refine wq_iconst (pc := 0) dM_sort_0 rfl ?_
  refine wq_istore_n (pc := 1) (lo' := [iR 80, iI 0, none, none, none, none]) dM_sort_1 rfl rfl rfl ?_
  refine wq_iconst (pc := 2) dM_sort_2 rfl ?_
  refine wq_istore_n (pc := 3) (lo' := [iR 80, iI 0, iI 0, none, none, none]) dM_sort_3 rfl rfl rfl ?_
  exact H

set_option maxRecDepth 20000 in
theorem B_M_sort_4 {x1 x2 : Int} {M : Mm} {Q : Mm → Option Mv → Prop} (hS : RefOK M) (H : ((gI M 81 2 ≤ x2 → Q (sI M 80 13 1) none) ∧ (¬ gI M 81 2 ≤ x2 → Wq 2 0 0 mM_sort 16 [iR 80, iI x1, iI x2, iI 0, none, none] [] M Q))) : Wq 2 0 0 mM_sort 4 [iR 80, iI x1, iI x2, none, none, none] [] M Q := by
  refine wq_iload_n (pc := 4) dM_sort_4 rfl rfl ?_
  refine wq_aload_n (pc := 5) dM_sort_5 rfl rfl ?_
  refine wq_getR (pc := 6) (z := 0) (b := 81) dM_sort_6 fO_M_9 sh_80 rfl rfl (rf_80_0 hS) ?_
  refine wq_iconst (pc := 9) dM_sort_9 rfl ?_
  refine wq_iald (pc := 10) dM_sort_10 sh_81 (by decide) (by decide) ?_
  refine wq_icmp_ge (pc := 11) (tgt := 140) dM_sort_11 (by decide) (fun c1 => ?_) (fun c1 => ?_)
  · have H := H.1 c1
    refine wq_aload_n (pc := 140) dM_sort_140 rfl rfl ?_
    refine wq_iconst (pc := 141) dM_sort_141 rfl ?_
    refine wq_putZ (pc := 142) (z := 13) dM_sort_142 fW_M_135 sh_80 rfl rfl (Or.inr rfl) ?_
    refine wq_return (pc := 145) dM_sort_145 trivial ?_
    exact H
  · have H := H.2 c1
    refine wq_iconst (pc := 14) dM_sort_14 rfl ?_
    refine wq_istore_n (pc := 15) (lo' := [iR 80, iI x1, iI x2, iI 0, none, none]) dM_sort_15 rfl rfl rfl ?_
    exact H

set_option maxRecDepth 20000 in
theorem B_M_sort_16 {x1 x2 x3 : Int} {M : Mm} {Q : Mm → Option Mv → Prop} (hS : RefOK M) (H : ((gI M 81 2 ≤ x3 → Wq 2 0 0 mM_sort 4 [iR 80, iI x1, iI x2, none, none, none] [] M Q) ∧ (¬ gI M 81 2 ≤ x3 → ((0 ≤ x1 ∧ x1 < 2147483648 ∧ 0 ≤ x3 ∧ x3 < 32) ∧ ((hb x1 x3 = true → Wq 2 0 0 mM_sort 44 [iR 80, iI x1, iI x2, iI x3, iI 0, iI 0] [] M Q) ∧ (¬ (hb x1 x3 = true) → Wq 2 0 0 mM_sort 44 [iR 80, iI x1, iI x2, iI x3, iI 1, iI 0] [] M Q)))))) : Wq 2 0 0 mM_sort 16 [iR 80, iI x1, iI x2, iI x3, none, none] [] M Q := by
  refine wq_iload_n (pc := 16) dM_sort_16 rfl rfl ?_
  refine wq_aload_n (pc := 17) dM_sort_17 rfl rfl ?_
  refine wq_getR (pc := 18) (z := 0) (b := 81) dM_sort_18 fO_M_9 sh_80 rfl rfl (rf_80_0 hS) ?_
  refine wq_iconst (pc := 21) dM_sort_21 rfl ?_
  refine wq_iald (pc := 22) dM_sort_22 sh_81 (by decide) (by decide) ?_
  refine wq_icmp_ge (pc := 23) (tgt := 137) dM_sort_23 (by decide) (fun c1 => ?_) (fun c1 => ?_)
  · have H := H.1 c1
    refine wq_goto (pc := 137) (tgt := 4) dM_sort_137 (by decide) ?_
    refine wq_drop [3] (lo' := [iR 80, iI x1, iI x2, none, none, none]) rfl ?_
    exact H
  · have H := H.2 c1
    obtain ⟨s2, H⟩ := H
    refine wq_iload_n (pc := 26) dM_sort_26 rfl rfl ?_
    refine wq_iload_n (pc := 27) dM_sort_27 rfl rfl ?_
    refine wq_callS (d' := 1) (pc := 28) (as := [vI x1, vI x3]) (rest := []) (lo' := [iI x1, iI x3]) dM_sort_28 mO_M_has lS_M_102 rfl rfl rfl rfl rfl rfl ?_
    refine sp_M_has s2 (fun c3 => ?_) (fun c3 => ?_)
    · have H := H.1 c3
      show Wq 2 0 0 mM_sort 31 [iR 80, iI x1, iI x2, iI x3, none, none] [vI 1] M _
      refine wq_if_ne (pc := 31) (tgt := 38) dM_sort_31 (by decide) (fun _ => ?_) (fun q => absurd q (by decide))
      refine wq_iconst (pc := 38) dM_sort_38 rfl ?_
      refine wq_istore (pc := 39) (lo' := [iR 80, iI x1, iI x2, iI x3, iI 0, none]) dM_sort_39 rfl rfl ?_
      refine wq_iconst (pc := 41) dM_sort_41 rfl ?_
      refine wq_istore (pc := 42) (lo' := [iR 80, iI x1, iI x2, iI x3, iI 0, iI 0]) dM_sort_42 rfl rfl ?_
      exact H
    · have H := H.2 c3
      show Wq 2 0 0 mM_sort 31 [iR 80, iI x1, iI x2, iI x3, none, none] [vI 0] M _
      refine wq_if_ne (pc := 31) (tgt := 38) dM_sort_31 (by decide) (fun q => absurd q (by decide)) (fun _ => ?_)
      refine wq_iconst (pc := 34) dM_sort_34 rfl ?_
      refine wq_goto (pc := 35) (tgt := 39) dM_sort_35 (by decide) ?_
      refine wq_istore (pc := 39) (lo' := [iR 80, iI x1, iI x2, iI x3, iI 1, none]) dM_sort_39 rfl rfl ?_
      refine wq_iconst (pc := 41) dM_sort_41 rfl ?_
      refine wq_istore (pc := 42) (lo' := [iR 80, iI x1, iI x2, iI x3, iI 1, iI 0]) dM_sort_42 rfl rfl ?_
      exact H

set_option maxRecDepth 20000 in
theorem B_M_sort_44 {x1 x2 x3 x4 x5 : Int} {M : Mm} {Q : Mm → Option Mv → Prop} (hS : RefOK M) (H : ((gI M 81 3 ≤ x5 → ((x4 = 0 → ((-2147483648 ≤ x3 + 1 ∧ x3 + 1 < 2147483648) ∧ Wq 2 0 0 mM_sort 16 [iR 80, iI x1, iI x2, iI (x3 + 1), none, none] [] M Q)) ∧ (¬ x4 = 0 → (((0 ≤ x2 ∧ x2 < 16) ∧ (-2147483648 ≤ x2 + 1 ∧ x2 + 1 < 2147483648) ∧ (-2147483648 ≤ x3 + 1 ∧ x3 + 1 < 2147483648)) ∧ Wq 2 0 0 mM_sort 16 [iR 80, iI (bOr x1 (bShl 1 x3)), iI (x2 + 1), iI (x3 + 1), none, none] [] (sI M 91 x2 x3) Q)))) ∧ (¬ gI M 81 3 ≤ x5 → ((x4 = 0 → ((x4 = 0 → ((-2147483648 ≤ x3 + 1 ∧ x3 + 1 < 2147483648) ∧ Wq 2 0 0 mM_sort 16 [iR 80, iI x1, iI x2, iI (x3 + 1), none, none] [] M Q)) ∧ (¬ x4 = 0 → (((0 ≤ x2 ∧ x2 < 16) ∧ (-2147483648 ≤ x2 + 1 ∧ x2 + 1 < 2147483648) ∧ (-2147483648 ≤ x3 + 1 ∧ x3 + 1 < 2147483648)) ∧ Wq 2 0 0 mM_sort 16 [iR 80, iI (bOr x1 (bShl 1 x3)), iI (x2 + 1), iI (x3 + 1), none, none] [] (sI M 91 x2 x3) Q)))) ∧ (¬ x4 = 0 → ((0 ≤ 59 + 3 * x5 ∧ 59 + 3 * x5 < 1993) ∧ ((¬ gI M 81 (59 + 3 * x5) = x3 → ((-2147483648 ≤ x5 + 1 ∧ x5 + 1 < 2147483648) ∧ Wq 2 0 0 mM_sort 44 [iR 80, iI x1, iI x2, iI x3, iI 1, iI (x5 + 1)] [] M Q)) ∧ (gI M 81 (59 + 3 * x5) = x3 → (((0 ≤ 58 + 3 * x5 ∧ 58 + 3 * x5 < 1993) ∧ (0 ≤ x1 ∧ x1 < 2147483648 ∧ 0 ≤ gI M 81 (58 + 3 * x5) ∧ gI M 81 (58 + 3 * x5) < 32)) ∧ ((hb x1 (gI M 81 (58 + 3 * x5)) = true → ((-2147483648 ≤ x5 + 1 ∧ x5 + 1 < 2147483648) ∧ Wq 2 0 0 mM_sort 44 [iR 80, iI x1, iI x2, iI x3, iI 1, iI (x5 + 1)] [] M Q)) ∧ (¬ (hb x1 (gI M 81 (58 + 3 * x5)) = true) → ((-2147483648 ≤ x5 + 1 ∧ x5 + 1 < 2147483648) ∧ Wq 2 0 0 mM_sort 44 [iR 80, iI x1, iI x2, iI x3, iI 0, iI (x5 + 1)] [] M Q)))))))))))) : Wq 2 0 0 mM_sort 44 [iR 80, iI x1, iI x2, iI x3, iI x4, iI x5] [] M Q := by
  refine wq_iload (pc := 44) dM_sort_44 rfl ?_
  refine wq_aload_n (pc := 46) dM_sort_46 rfl rfl ?_
  refine wq_getR (pc := 47) (z := 0) (b := 81) dM_sort_47 fO_M_9 sh_80 rfl rfl (rf_80_0 hS) ?_
  refine wq_iconst (pc := 50) dM_sort_50 rfl ?_
  refine wq_iald (pc := 51) dM_sort_51 sh_81 (by decide) (by decide) ?_
  refine wq_icmp_ge (pc := 52) (tgt := 110) dM_sort_52 (by decide) (fun c1 => ?_) (fun c1 => ?_)
  · have H := H.1 c1
    refine wq_iload (pc := 110) dM_sort_110 rfl ?_
    refine wq_if_eq (pc := 112) (tgt := 131) dM_sort_112 (by decide) (fun c2 => ?_) (fun c2 => ?_)
    · have H := H.1 c2
      obtain ⟨s3, H⟩ := H
      refine wq_iinc (pc := 131) (lo' := [iR 80, iI x1, iI x2, iI (x3 + 1), iI x4, iI x5]) dM_sort_131 rfl rfl (by rw [show wr (x3 + 1) = x3 + 1 from (Eq.trans (wr_eq (by omega) (by omega)) (by omega))]; rfl) ?_
      refine wq_goto (pc := 134) (tgt := 16) dM_sort_134 (by decide) ?_
      refine wq_drop [4, 5] (lo' := [iR 80, iI x1, iI x2, iI (x3 + 1), none, none]) rfl ?_
      exact H
    · have H := H.2 c2
      obtain ⟨⟨s4, s5, s6⟩, H⟩ := H
      refine wq_aload_n (pc := 115) dM_sort_115 rfl rfl ?_
      refine wq_getR (pc := 116) (z := 12) (b := 91) dM_sort_116 fO_M_40 sh_80 rfl rfl (rf_80_12 hS) ?_
      refine wq_iload_n (pc := 119) dM_sort_119 rfl rfl ?_
      refine wq_iload_n (pc := 120) dM_sort_120 rfl rfl ?_
      refine wq_iast (pc := 121) dM_sort_121 sh_91 (by decide) s4.1 s4.2 ?_
      refine wq_iinc (pc := 122) (lo' := [iR 80, iI x1, iI (x2 + 1), iI x3, iI x4, iI x5]) dM_sort_122 rfl rfl (by rw [show wr (x2 + 1) = x2 + 1 from (Eq.trans (wr_eq (by omega) (by omega)) (by omega))]; rfl) ?_
      refine wq_iload_n (pc := 125) dM_sort_125 rfl rfl ?_
      refine wq_iconst (pc := 126) dM_sort_126 rfl ?_
      refine wq_iload_n (pc := 127) dM_sort_127 rfl rfl ?_
      refine wq_ishl (pc := 128) dM_sort_128 ?_
      refine wq_ior (pc := 129) dM_sort_129 ?_
      refine wq_istore_n (pc := 130) (lo' := [iR 80, iI (bOr x1 (bShl 1 x3)), iI (x2 + 1), iI x3, iI x4, iI x5]) dM_sort_130 rfl rfl rfl ?_
      refine wq_iinc (pc := 131) (lo' := [iR 80, iI (bOr x1 (bShl 1 x3)), iI (x2 + 1), iI (x3 + 1), iI x4, iI x5]) dM_sort_131 rfl rfl (by rw [show wr (x3 + 1) = x3 + 1 from (Eq.trans (wr_eq (by omega) (by omega)) (by omega))]; rfl) ?_
      refine wq_goto (pc := 134) (tgt := 16) dM_sort_134 (by decide) ?_
      refine wq_drop [4, 5] (lo' := [iR 80, iI (bOr x1 (bShl 1 x3)), iI (x2 + 1), iI (x3 + 1), none, none]) rfl ?_
      exact H
  · have H := H.2 c1
    refine wq_iload (pc := 55) dM_sort_55 rfl ?_
    refine wq_if_eq (pc := 57) (tgt := 110) dM_sort_57 (by decide) (fun c7 => ?_) (fun c7 => ?_)
    · have H := H.1 c7
      refine wq_iload (pc := 110) dM_sort_110 rfl ?_
      refine wq_if_eq (pc := 112) (tgt := 131) dM_sort_112 (by decide) (fun c8 => ?_) (fun c8 => ?_)
      · have H := H.1 c8
        obtain ⟨s9, H⟩ := H
        refine wq_iinc (pc := 131) (lo' := [iR 80, iI x1, iI x2, iI (x3 + 1), iI x4, iI x5]) dM_sort_131 rfl rfl (by rw [show wr (x3 + 1) = x3 + 1 from (Eq.trans (wr_eq (by omega) (by omega)) (by omega))]; rfl) ?_
        refine wq_goto (pc := 134) (tgt := 16) dM_sort_134 (by decide) ?_
        refine wq_drop [4, 5] (lo' := [iR 80, iI x1, iI x2, iI (x3 + 1), none, none]) rfl ?_
        exact H
      · have H := H.2 c8
        obtain ⟨⟨s10, s11, s12⟩, H⟩ := H
        refine wq_aload_n (pc := 115) dM_sort_115 rfl rfl ?_
        refine wq_getR (pc := 116) (z := 12) (b := 91) dM_sort_116 fO_M_40 sh_80 rfl rfl (rf_80_12 hS) ?_
        refine wq_iload_n (pc := 119) dM_sort_119 rfl rfl ?_
        refine wq_iload_n (pc := 120) dM_sort_120 rfl rfl ?_
        refine wq_iast (pc := 121) dM_sort_121 sh_91 (by decide) s10.1 s10.2 ?_
        refine wq_iinc (pc := 122) (lo' := [iR 80, iI x1, iI (x2 + 1), iI x3, iI x4, iI x5]) dM_sort_122 rfl rfl (by rw [show wr (x2 + 1) = x2 + 1 from (Eq.trans (wr_eq (by omega) (by omega)) (by omega))]; rfl) ?_
        refine wq_iload_n (pc := 125) dM_sort_125 rfl rfl ?_
        refine wq_iconst (pc := 126) dM_sort_126 rfl ?_
        refine wq_iload_n (pc := 127) dM_sort_127 rfl rfl ?_
        refine wq_ishl (pc := 128) dM_sort_128 ?_
        refine wq_ior (pc := 129) dM_sort_129 ?_
        refine wq_istore_n (pc := 130) (lo' := [iR 80, iI (bOr x1 (bShl 1 x3)), iI (x2 + 1), iI x3, iI x4, iI x5]) dM_sort_130 rfl rfl rfl ?_
        refine wq_iinc (pc := 131) (lo' := [iR 80, iI (bOr x1 (bShl 1 x3)), iI (x2 + 1), iI (x3 + 1), iI x4, iI x5]) dM_sort_131 rfl rfl (by rw [show wr (x3 + 1) = x3 + 1 from (Eq.trans (wr_eq (by omega) (by omega)) (by omega))]; rfl) ?_
        refine wq_goto (pc := 134) (tgt := 16) dM_sort_134 (by decide) ?_
        refine wq_drop [4, 5] (lo' := [iR 80, iI (bOr x1 (bShl 1 x3)), iI (x2 + 1), iI (x3 + 1), none, none]) rfl ?_
        exact H
    · have H := H.2 c7
      obtain ⟨s13, H⟩ := H
      refine wq_aload_n (pc := 60) dM_sort_60 rfl rfl ?_
      refine wq_getR (pc := 61) (z := 0) (b := 81) dM_sort_61 fO_M_9 sh_80 rfl rfl (rf_80_0 hS) ?_
      refine wq_bipush (pc := 64) dM_sort_64 rfl ?_
      refine wq_iconst (pc := 66) dM_sort_66 rfl ?_
      refine wq_iload (pc := 67) dM_sort_67 rfl ?_
      refine wq_imul (pc := 69) dM_sort_69 ?_
      refine wq_iadd (pc := 70) dM_sort_70 ?_
      refine wq_iconst (pc := 71) dM_sort_71 rfl ?_
      refine wq_iadd (pc := 72) dM_sort_72 ?_
      refine wq_re (x := (wr (wr (58 + wr (3 * x5)) + 1))) (y := (59 + 3 * x5)) (by (try simp only [wr_al, wr_ar, wr_sl, wr_sr, wr_ml, wr_mr, wr_nn, wr_ww]); exact Eq.trans (wr_eq (by omega) (by omega)) (by omega)) ?_
      refine wq_iald (pc := 73) dM_sort_73 sh_81 s13.1 s13.2 ?_
      refine wq_iload_n (pc := 74) dM_sort_74 rfl rfl ?_
      refine wq_icmp_ne (pc := 75) (tgt := 97) dM_sort_75 (by decide) (fun c14 => ?_) (fun c14 => ?_)
      · have H := H.1 c14
        obtain ⟨s15, H⟩ := H
        refine wq_iconst (pc := 97) dM_sort_97 rfl ?_
        refine wq_goto (pc := 98) (tgt := 102) dM_sort_98 (by decide) ?_
        refine wq_istore (pc := 102) (lo' := [iR 80, iI x1, iI x2, iI x3, iI 1, iI x5]) dM_sort_102 rfl rfl ?_
        refine wq_iinc (pc := 104) (lo' := [iR 80, iI x1, iI x2, iI x3, iI 1, iI (x5 + 1)]) dM_sort_104 rfl rfl (by rw [show wr (x5 + 1) = x5 + 1 from (Eq.trans (wr_eq (by omega) (by omega)) (by omega))]; rfl) ?_
        refine wq_goto (pc := 107) (tgt := 44) dM_sort_107 (by decide) ?_
        exact H
      · have H := H.2 c14
        obtain ⟨⟨s16, s17⟩, H⟩ := H
        refine wq_iload_n (pc := 78) dM_sort_78 rfl rfl ?_
        refine wq_aload_n (pc := 79) dM_sort_79 rfl rfl ?_
        refine wq_getR (pc := 80) (z := 0) (b := 81) dM_sort_80 fO_M_9 sh_80 rfl rfl (rf_80_0 hS) ?_
        refine wq_bipush (pc := 83) dM_sort_83 rfl ?_
        refine wq_iconst (pc := 85) dM_sort_85 rfl ?_
        refine wq_iload (pc := 86) dM_sort_86 rfl ?_
        refine wq_imul (pc := 88) dM_sort_88 ?_
        refine wq_iadd (pc := 89) dM_sort_89 ?_
        refine wq_re (x := (wr (58 + wr (3 * x5)))) (y := (58 + 3 * x5)) (by (try simp only [wr_al, wr_ar, wr_sl, wr_sr, wr_ml, wr_mr, wr_nn, wr_ww]); exact Eq.trans (wr_eq (by omega) (by omega)) (by omega)) ?_
        refine wq_iald (pc := 90) dM_sort_90 sh_81 s16.1 s16.2 ?_
        refine wq_callS (d' := 1) (pc := 91) (as := [vI x1, vI (gI M 81 (58 + 3 * x5))]) (rest := []) (lo' := [iI x1, iI (gI M 81 (58 + 3 * x5))]) dM_sort_91 mO_M_has lS_M_102 rfl rfl rfl rfl rfl rfl ?_
        refine sp_M_has s17 (fun c18 => ?_) (fun c18 => ?_)
        · have H := H.1 c18
          show Wq 2 0 0 mM_sort 94 [iR 80, iI x1, iI x2, iI x3, iI x4, iI x5] [vI 1] M _
          obtain ⟨s19, H⟩ := H
          refine wq_if_eq (pc := 94) (tgt := 101) dM_sort_94 (by decide) (fun q => absurd q (by decide)) (fun _ => ?_)
          refine wq_iconst (pc := 97) dM_sort_97 rfl ?_
          refine wq_goto (pc := 98) (tgt := 102) dM_sort_98 (by decide) ?_
          refine wq_istore (pc := 102) (lo' := [iR 80, iI x1, iI x2, iI x3, iI 1, iI x5]) dM_sort_102 rfl rfl ?_
          refine wq_iinc (pc := 104) (lo' := [iR 80, iI x1, iI x2, iI x3, iI 1, iI (x5 + 1)]) dM_sort_104 rfl rfl (by rw [show wr (x5 + 1) = x5 + 1 from (Eq.trans (wr_eq (by omega) (by omega)) (by omega))]; rfl) ?_
          refine wq_goto (pc := 107) (tgt := 44) dM_sort_107 (by decide) ?_
          exact H
        · have H := H.2 c18
          show Wq 2 0 0 mM_sort 94 [iR 80, iI x1, iI x2, iI x3, iI x4, iI x5] [vI 0] M _
          obtain ⟨s20, H⟩ := H
          refine wq_if_eq (pc := 94) (tgt := 101) dM_sort_94 (by decide) (fun _ => ?_) (fun q => absurd (by decide) q)
          refine wq_iconst (pc := 101) dM_sort_101 rfl ?_
          refine wq_istore (pc := 102) (lo' := [iR 80, iI x1, iI x2, iI x3, iI 0, iI x5]) dM_sort_102 rfl rfl ?_
          refine wq_iinc (pc := 104) (lo' := [iR 80, iI x1, iI x2, iI x3, iI 0, iI (x5 + 1)]) dM_sort_104 rfl rfl (by rw [show wr (x5 + 1) = x5 + 1 from (Eq.trans (wr_eq (by omega) (by omega)) (by omega))]; rfl) ?_
          refine wq_goto (pc := 107) (tgt := 44) dM_sort_107 (by decide) ?_
          exact H
