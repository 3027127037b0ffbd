set_option maxRecDepth 20000 in
theorem B_M_slackOf_0 {x1 x2 : Int} {M : Mm} {Q : Mm → Option Mv → Prop} (H : Wq 5 0 0 mM_endBy 0 [iR 80, iI x1] [] M (fun M' v => Wq 6 0 0 mM_slackOf 5 [iR 80, iI x1, iI x2, none, none, none, none, none] (v.toList ++ []) M' Q)) : Wq 6 0 0 mM_slackOf 0 [iR 80, iI x1, iI x2, none, none, none, none, none] [] M Q := by
  refine wq_aload_n (pc := 0) dM_slackOf_0 rfl rfl ?_
  refine wq_iload_n (pc := 1) dM_slackOf_1 rfl rfl ?_
  refine wq_callV (d' := 5) (pc := 2) (as := [vI x1]) (rest := []) (lo' := [iR 80, iI x1]) dM_slackOf_2 mO_M_endBy lV_M_162 sh_80 (by decide) cl_11 rfl rfl rfl rfl rfl rfl ?_
  exact H

set_option maxRecDepth 20000 in
theorem B_M_slackOf_5 {x1 x2 y0 : Int} {M : Mm} {Q : Mm → Option Mv → Prop} (hS : RefOK M) (H : ((0 ≤ x2 ∧ x2 < 16) ∧ Wq 6 0 0 mM_slackOf 21 [iR 80, iI x1, iI x2, iI y0, iI (gI M 88 x2), iI 0, iI 100, none] [] M Q)) : Wq 6 0 0 mM_slackOf 5 [iR 80, iI x1, iI x2, none, none, none, none, none] [vI y0] M Q := by
  obtain ⟨s1, H⟩ := H
  refine wq_istore_n (pc := 5) (lo' := [iR 80, iI x1, iI x2, iI y0, none, none, none, none]) dM_slackOf_5 rfl rfl rfl ?_
  refine wq_aload_n (pc := 6) dM_slackOf_6 rfl rfl ?_
  refine wq_getR (pc := 7) (z := 9) (b := 88) dM_slackOf_7 fO_M_31 sh_80 rfl rfl (rf_80_9 hS) ?_
  refine wq_iload_n (pc := 10) dM_slackOf_10 rfl rfl ?_
  refine wq_iald (pc := 11) dM_slackOf_11 sh_88 s1.1 s1.2 ?_
  refine wq_istore (pc := 12) (lo' := [iR 80, iI x1, iI x2, iI y0, iI (gI M 88 x2), none, none, none]) dM_slackOf_12 rfl rfl ?_
  refine wq_iconst (pc := 14) dM_slackOf_14 rfl ?_
  refine wq_istore (pc := 15) (lo' := [iR 80, iI x1, iI x2, iI y0, iI (gI M 88 x2), iI 0, none, none]) dM_slackOf_15 rfl rfl ?_
  refine wq_bipush (pc := 17) dM_slackOf_17 rfl ?_
  refine wq_istore (pc := 19) (lo' := [iR 80, iI x1, iI x2, iI y0, iI (gI M 88 x2), iI 0, iI 100, none]) dM_slackOf_19 rfl rfl ?_
  exact H

set_option maxRecDepth 20000 in
theorem B_M_slackOf_21 {x1 x2 x3 x4 x5 x6 : Int} {M : Mm} {Q : Mm → Option Mv → Prop} (hS : RefOK M) (H : ((-2147483648 ≤ x6 - x5 ∧ x6 - x5 < 2147483648) ∧ ((x6 - x5 ≤ 1 → Q M (some (vI x5))) ∧ (¬ x6 - x5 ≤ 1 → (((-2147483648 ≤ x5 + x6 ∧ x5 + x6 < 2147483648) ∧ (-2147483648 ≤ Int.tdiv (x5 + x6) 2 ∧ Int.tdiv (x5 + x6) 2 < 2147483648) ∧ (-2147483648 ≤ x4 + Int.tdiv (x5 + x6) 2 ∧ x4 + Int.tdiv (x5 + x6) 2 < 2147483648) ∧ (0 ≤ x2 ∧ x2 < 16)) ∧ Wq 4 0 0 mM_goThrough 0 [iR 80, none, none, none, none, none] [] (sI M 88 x2 (x4 + Int.tdiv (x5 + x6) 2)) (fun M' v => Wq 6 0 0 mM_slackOf 54 [iR 80, iI x1, iI x2, iI x3, iI x4, iI x5, iI x6, iI (Int.tdiv (x5 + x6) 2)] (v.toList ++ []) M' Q)))))) : Wq 6 0 0 mM_slackOf 21 [iR 80, iI x1, iI x2, iI x3, iI x4, iI x5, iI x6, none] [] M Q := by
  obtain ⟨s1, H⟩ := H
  refine wq_iload (pc := 21) dM_slackOf_21 rfl ?_
  refine wq_iload (pc := 23) dM_slackOf_23 rfl ?_
  refine wq_isub (pc := 25) dM_slackOf_25 ?_
  refine wq_iconst (pc := 26) dM_slackOf_26 rfl ?_
  refine wq_re2 (x := (wr (x6 - x5))) (y := (x6 - x5)) (Eq.trans (wr_eq (by omega) (by omega)) (by omega)) ?_
  refine wq_icmp_le (pc := 27) (tgt := 72) dM_slackOf_27 (by decide) (fun c2 => ?_) (fun c2 => ?_)
  · have H := H.1 c2
    refine wq_iload (pc := 72) dM_slackOf_72 rfl ?_
    refine wq_ireturn (pc := 74) dM_slackOf_74 trivial ?_
    exact H
  · have H := H.2 c2
    obtain ⟨⟨s3, s4, s5, s6⟩, H⟩ := H
    refine wq_iload (pc := 30) dM_slackOf_30 rfl ?_
    refine wq_iload (pc := 32) dM_slackOf_32 rfl ?_
    refine wq_iadd (pc := 34) dM_slackOf_34 ?_
    refine wq_iconst (pc := 35) dM_slackOf_35 rfl ?_
    refine wq_re2 (x := (wr (x5 + x6))) (y := (x5 + x6)) (Eq.trans (wr_eq (by omega) (by omega)) (by omega)) ?_
    refine wq_idiv (pc := 36) dM_slackOf_36 (by decide) ?_
    refine wq_re (x := (wr (Int.tdiv (x5 + x6) 2))) (y := (Int.tdiv (x5 + x6) 2)) (Eq.trans (wr_eq (by omega) (by omega)) (by omega)) ?_
    refine wq_istore (pc := 37) (lo' := [iR 80, iI x1, iI x2, iI x3, iI x4, iI x5, iI x6, iI (Int.tdiv (x5 + x6) 2)]) dM_slackOf_37 rfl rfl ?_
    refine wq_aload_n (pc := 39) dM_slackOf_39 rfl rfl ?_
    refine wq_getR (pc := 40) (z := 9) (b := 88) dM_slackOf_40 fO_M_31 sh_80 rfl rfl (rf_80_9 hS) ?_
    refine wq_iload_n (pc := 43) dM_slackOf_43 rfl rfl ?_
    refine wq_iload (pc := 44) dM_slackOf_44 rfl ?_
    refine wq_iload (pc := 46) dM_slackOf_46 rfl ?_
    refine wq_iadd (pc := 48) dM_slackOf_48 ?_
    refine wq_re (x := (wr (x4 + Int.tdiv (x5 + x6) 2))) (y := (x4 + Int.tdiv (x5 + x6) 2)) (Eq.trans (wr_eq (by omega) (by omega)) (by omega)) ?_
    refine wq_iast (pc := 49) dM_slackOf_49 sh_88 (by decide) s6.1 s6.2 ?_
    refine wq_aload_n (pc := 50) dM_slackOf_50 rfl rfl ?_
    refine wq_callV (d' := 4) (pc := 51) (as := []) (rest := []) (lo' := [iR 80, none, none, none, none, none]) dM_slackOf_51 mO_M_goThrough lV_M_158 sh_80 (by decide) cl_11 rfl rfl rfl rfl rfl rfl ?_
    exact H

set_option maxRecDepth 20000 in
theorem B_M_slackOf_54 {x1 x2 x3 x4 x5 x6 x7 y0 : Int} {M : Mm} {Q : Mm → Option Mv → Prop} (H : ((¬ y0 = x3 → Wq 6 0 0 mM_slackOf 21 [iR 80, iI x1, iI x2, iI x3, iI x4, iI x5, iI x7, none] [] M Q) ∧ (y0 = x3 → Wq 6 0 0 mM_slackOf 21 [iR 80, iI x1, iI x2, iI x3, iI x4, iI x7, iI x6, none] [] M Q))) : Wq 6 0 0 mM_slackOf 54 [iR 80, iI x1, iI x2, iI x3, iI x4, iI x5, iI x6, iI x7] [vI y0] M Q := by
  refine wq_iload_n (pc := 54) dM_slackOf_54 rfl rfl ?_
  refine wq_icmp_ne (pc := 55) (tgt := 65) dM_slackOf_55 (by decide) (fun c1 => ?_) (fun c1 => ?_)
  · have H := H.1 c1
    refine wq_iload (pc := 65) dM_slackOf_65 rfl ?_
    refine wq_istore (pc := 67) (lo' := [iR 80, iI x1, iI x2, iI x3, iI x4, iI x5, iI x7, iI x7]) dM_slackOf_67 rfl rfl ?_
    refine wq_goto (pc := 69) (tgt := 21) dM_slackOf_69 (by decide) ?_
    refine wq_drop [7] (lo' := [iR 80, iI x1, iI x2, iI x3, iI x4, iI x5, iI x7, none]) rfl ?_
    exact H
  · have H := H.2 c1
    refine wq_iload (pc := 58) dM_slackOf_58 rfl ?_
    refine wq_istore (pc := 60) (lo' := [iR 80, iI x1, iI x2, iI x3, iI x4, iI x7, iI x6, iI x7]) dM_slackOf_60 rfl rfl ?_
    refine wq_goto (pc := 62) (tgt := 69) dM_slackOf_62 (by decide) ?_
    refine wq_goto (pc := 69) (tgt := 21) dM_slackOf_69 (by decide) ?_
    refine wq_drop [7] (lo' := [iR 80, iI x1, iI x2, iI x3, iI x4, iI x7, iI x6, none]) rfl ?_
    exact H
set_option maxRecDepth 20000 in
theorem B_M_floatOf_0 {x1 : Int} {M : Mm} {Q : Mm → Option Mv → Prop} (hS : RefOK M) (H : ((0 ≤ x1 ∧ x1 < 16) ∧ ((0 ≤ gI M 92 x1 → Q M (some (vI (gI M 92 x1)))) ∧ (¬ 0 ≤ gI M 92 x1 → Wq 6 0 0 mM_slackOf 0 [iR 80, iI 0, iI x1, none, none, none, none, none] [] M (fun M' v => Wq 7 0 0 mM_floatOf 20 [iR 80, iI x1] (v.toList ++ [vI x1, vR 92]) M' Q))))) : Wq 7 0 0 mM_floatOf 0 [iR 80, iI x1] [] M Q := by
  obtain ⟨s1, H⟩ := H
  refine wq_aload_n (pc := 0) dM_floatOf_0 rfl rfl ?_
  refine wq_getR (pc := 1) (z := 14) (b := 92) dM_floatOf_1 fO_M_43 sh_80 rfl rfl (rf_80_14 hS) ?_
  refine wq_iload_n (pc := 4) dM_floatOf_4 rfl rfl ?_
  refine wq_iald (pc := 5) dM_floatOf_5 sh_92 s1.1 s1.2 ?_
  refine wq_if_ge (pc := 6) (tgt := 21) dM_floatOf_6 (by decide) (fun c2 => ?_) (fun c2 => ?_)
  · have H := H.1 c2
    refine wq_aload_n (pc := 21) dM_floatOf_21 rfl rfl ?_
    refine wq_getR (pc := 22) (z := 14) (b := 92) dM_floatOf_22 fO_M_43 sh_80 rfl rfl (rf_80_14 hS) ?_
    refine wq_iload_n (pc := 25) dM_floatOf_25 rfl rfl ?_
    refine wq_iald (pc := 26) dM_floatOf_26 sh_92 s1.1 s1.2 ?_
    refine wq_ireturn (pc := 27) dM_floatOf_27 trivial ?_
    exact H
  · have H := H.2 c2
    refine wq_aload_n (pc := 9) dM_floatOf_9 rfl rfl ?_
    refine wq_getR (pc := 10) (z := 14) (b := 92) dM_floatOf_10 fO_M_43 sh_80 rfl rfl (rf_80_14 hS) ?_
    refine wq_iload_n (pc := 13) dM_floatOf_13 rfl rfl ?_
    refine wq_aload_n (pc := 14) dM_floatOf_14 rfl rfl ?_
    refine wq_iconst (pc := 15) dM_floatOf_15 rfl ?_
    refine wq_iload_n (pc := 16) dM_floatOf_16 rfl rfl ?_
    refine wq_callV (d' := 6) (pc := 17) (as := [vI 0, vI x1]) (rest := [vI x1, vR 92]) (lo' := [iR 80, iI 0, iI x1, none, none, none, none, none]) dM_floatOf_17 mO_M_slackOf lV_M_165 sh_80 (by decide) cl_11 rfl rfl rfl rfl rfl rfl ?_
    exact H

set_option maxRecDepth 20000 in
theorem B_M_floatOf_20 {x1 y0 : Int} {M : Mm} {Q : Mm → Option Mv → Prop} (hS : RefOK M) (H : ((0 ≤ x1 ∧ x1 < 16) ∧ Q (sI M 92 x1 y0) (some (vI y0)))) : Wq 7 0 0 mM_floatOf 20 [iR 80, iI x1] [vI y0, vI x1, vR 92] M Q := by
  obtain ⟨s1, H⟩ := H
  refine wq_iast (pc := 20) dM_floatOf_20 sh_92 (by decide) s1.1 s1.2 ?_
  refine wq_aload_n (pc := 21) dM_floatOf_21 rfl rfl ?_
  refine wq_getR (pc := 22) (z := 14) (b := 92) dM_floatOf_22 fO_M_43 sh_80 rfl rfl (rf_80_14 hS) ?_
  refine wq_iload_n (pc := 25) dM_floatOf_25 rfl rfl ?_
  refine wq_iald (pc := 26) dM_floatOf_26 sh_92 s1.1 s1.2 ?_
  refine wq_re (x := (gI (sI M 92 x1 y0) 92 x1)) (y := y0) gI_s ?_
  refine wq_ireturn (pc := 27) dM_floatOf_27 trivial ?_
  exact H
set_option maxRecDepth 20000 in
theorem B_M_plan_0 {x1 x2 x3 : Int} {M : Mm} {Q : Mm → Option Mv → Prop} (hS : RefOK M) (H : ((0 ≤ gI M 81 4 ∧ gI M 81 4 ≤ 20) ∧ ((0 ≤ x1 ∧ x1 < (2 : Int) ^ (gI M 81 4).toNat → (0 ≤ gI M 81 2 ∧ ((0 ≤ x2 ∧ x2 < gI M 81 2 → ((0 ≤ x3 ∧ x3 ≤ 2 → ((¬ x3 = 2 → Wq 5 0 0 mM_endBy 0 [iR 80, iI x1] [] M (fun M' v => Wq 7 0 0 mM_plan 53 [iR 80, iI x1, iI x2, iI x3, none] (v.toList ++ []) M' Q)) ∧ (x3 = 2 → Wq 6 0 0 mM_slackOf 0 [iR 80, iI x1, iI x2, none, none, none, none, none] [] M (fun M' v => Wq 7 0 0 mM_plan 47 [iR 80, iI x1, iI x2, iI x3, none] (v.toList ++ []) M' Q)))) ∧ (¬ (0 ≤ x3 ∧ x3 ≤ 2) → Q (sI M 83 1 (wr (gI M 83 1 + 1))) (some (vI (-1000001)))))) ∧ (¬ (0 ≤ x2 ∧ x2 < gI M 81 2) → Q (sI M 83 1 (wr (gI M 83 1 + 1))) (some (vI (-1000001))))))) ∧ (¬ (0 ≤ x1 ∧ x1 < (2 : Int) ^ (gI M 81 4).toNat) → Q (sI M 83 1 (wr (gI M 83 1 + 1))) (some (vI (-1000001))))))) : Wq 7 0 0 mM_plan 0 [iR 80, iI x1, iI x2, iI x3, none] [] M Q := by
  obtain ⟨s1, H⟩ := H
  refine wq_aload_n (pc := 0) dM_plan_0 rfl rfl ?_
  refine wq_iload_n (pc := 1) dM_plan_1 rfl rfl ?_
  refine wq_callV (d' := 2) (pc := 2) (as := [vI x1]) (rest := []) (lo' := [iR 80, iI x1]) dM_plan_2 mO_M_areEvents lV_M_168 sh_80 (by decide) cl_11 rfl rfl rfl rfl rfl rfl ?_
  refine sp_M_areEvents hS s1 (fun c2 => ?_) (fun c2 => ?_)
  · have H := H.1 c2
    show Wq 7 0 0 mM_plan 5 [iR 80, iI x1, iI x2, iI x3, none] [vI 1] M _
    obtain ⟨s3, H⟩ := H
    refine wq_if_eq (pc := 5) (tgt := 29) dM_plan_5 (by decide) (fun q => absurd q (by decide)) (fun _ => ?_)
    refine wq_aload_n (pc := 8) dM_plan_8 rfl rfl ?_
    refine wq_iload_n (pc := 9) dM_plan_9 rfl rfl ?_
    refine wq_iconst (pc := 10) dM_plan_10 rfl ?_
    refine wq_callV (d' := 2) (pc := 11) (as := [vI x2, vI 2]) (rest := []) (lo' := [iR 80, iI x2, iI 2]) dM_plan_11 mO_M_is lV_M_84 sh_80 (by decide) cl_11 rfl rfl rfl rfl rfl rfl ?_
    refine sp_M_is (c := 2) (by decide) hS s3 (fun c4 => ?_) (fun c4 => ?_)
    · have H := H.1 c4
      show Wq 7 0 0 mM_plan 14 [iR 80, iI x1, iI x2, iI x3, none] [vI 1] M _
      refine wq_if_eq (pc := 14) (tgt := 29) dM_plan_14 (by decide) (fun q => absurd q (by decide)) (fun _ => ?_)
      refine wq_iload_n (pc := 17) dM_plan_17 rfl rfl ?_
      refine wq_i2l (pc := 18) dM_plan_18 ?_
      refine wq_lconst (pc := 19) (x := 0) dM_plan_19 rfl rfl ?_
      refine wq_ldc2 (pc := 20) (z := 2) dM_plan_20 kO_M_171 (by decide) ?_
      refine wq_callS (d' := 1) (pc := 23) (as := [vL x3, vL 0, vL 2]) (rest := []) (lo' := [iL x3, none, iL 0, none, iL 2, none]) dM_plan_23 mO_M_within lS_M_68 rfl rfl rfl rfl rfl rfl ?_
      refine sp_M_within (fun c5 => ?_) (fun c5 => ?_)
      · have H := H.1 c5
        show Wq 7 0 0 mM_plan 26 [iR 80, iI x1, iI x2, iI x3, none] [vI 1] M _
        refine wq_if_ne (pc := 26) (tgt := 36) dM_plan_26 (by decide) (fun _ => ?_) (fun q => absurd q (by decide))
        refine wq_iload_n (pc := 36) dM_plan_36 rfl rfl ?_
        refine wq_iconst (pc := 37) dM_plan_37 rfl ?_
        refine wq_icmp_ne (pc := 38) (tgt := 48) dM_plan_38 (by decide) (fun c6 => ?_) (fun c6 => ?_)
        · have H := H.1 c6
          refine wq_aload_n (pc := 48) dM_plan_48 rfl rfl ?_
          refine wq_iload_n (pc := 49) dM_plan_49 rfl rfl ?_
          refine wq_callV (d' := 5) (pc := 50) (as := [vI x1]) (rest := []) (lo' := [iR 80, iI x1]) dM_plan_50 mO_M_endBy lV_M_162 sh_80 (by decide) cl_11 rfl rfl rfl rfl rfl rfl ?_
          exact H
        · have H := H.2 c6
          refine wq_aload_n (pc := 41) dM_plan_41 rfl rfl ?_
          refine wq_iload_n (pc := 42) dM_plan_42 rfl rfl ?_
          refine wq_iload_n (pc := 43) dM_plan_43 rfl rfl ?_
          refine wq_callV (d' := 6) (pc := 44) (as := [vI x1, vI x2]) (rest := []) (lo' := [iR 80, iI x1, iI x2, none, none, none, none, none]) dM_plan_44 mO_M_slackOf lV_M_165 sh_80 (by decide) cl_11 rfl rfl rfl rfl rfl rfl ?_
          exact H
      · have H := H.2 c5
        show Wq 7 0 0 mM_plan 26 [iR 80, iI x1, iI x2, iI x3, none] [vI 0] M _
        refine wq_if_ne (pc := 26) (tgt := 36) dM_plan_26 (by decide) (fun q => absurd q (by decide)) (fun _ => ?_)
        refine wq_aload_n (pc := 29) dM_plan_29 rfl rfl ?_
        refine wq_ldc (pc := 30) (z := (-1000001)) dM_plan_30 kO_M_78 (by decide) ?_
        refine wq_callV (d' := 1) (pc := 32) (as := [vI (-1000001)]) (rest := []) (lo' := [iR 80, iI ((-1000001))]) dM_plan_32 mO_M_finding lV_M_79 sh_80 (by decide) cl_11 rfl rfl rfl rfl rfl rfl ?_
        refine sp_M_finding (k := 1) (by decide) (by decide) (by decide) hS ?_
        show Wq 7 0 0 mM_plan 35 [iR 80, iI x1, iI x2, iI x3, none] [vI (-1000001)] (sI M 83 1 (wr (gI M 83 1 + 1))) _
        refine wq_ireturn (pc := 35) dM_plan_35 trivial ?_
        exact H
    · have H := H.2 c4
      show Wq 7 0 0 mM_plan 14 [iR 80, iI x1, iI x2, iI x3, none] [vI 0] M _
      refine wq_if_eq (pc := 14) (tgt := 29) dM_plan_14 (by decide) (fun _ => ?_) (fun q => absurd (by decide) q)
      refine wq_aload_n (pc := 29) dM_plan_29 rfl rfl ?_
      refine wq_ldc (pc := 30) (z := (-1000001)) dM_plan_30 kO_M_78 (by decide) ?_
      refine wq_callV (d' := 1) (pc := 32) (as := [vI (-1000001)]) (rest := []) (lo' := [iR 80, iI ((-1000001))]) dM_plan_32 mO_M_finding lV_M_79 sh_80 (by decide) cl_11 rfl rfl rfl rfl rfl rfl ?_
      refine sp_M_finding (k := 1) (by decide) (by decide) (by decide) hS ?_
      show Wq 7 0 0 mM_plan 35 [iR 80, iI x1, iI x2, iI x3, none] [vI (-1000001)] (sI M 83 1 (wr (gI M 83 1 + 1))) _
      refine wq_ireturn (pc := 35) dM_plan_35 trivial ?_
      exact H
  · have H := H.2 c2
    show Wq 7 0 0 mM_plan 5 [iR 80, iI x1, iI x2, iI x3, none] [vI 0] M _
    refine wq_if_eq (pc := 5) (tgt := 29) dM_plan_5 (by decide) (fun _ => ?_) (fun q => absurd (by decide) q)
    refine wq_aload_n (pc := 29) dM_plan_29 rfl rfl ?_
    refine wq_ldc (pc := 30) (z := (-1000001)) dM_plan_30 kO_M_78 (by decide) ?_
    refine wq_callV (d' := 1) (pc := 32) (as := [vI (-1000001)]) (rest := []) (lo' := [iR 80, iI ((-1000001))]) dM_plan_32 mO_M_finding lV_M_79 sh_80 (by decide) cl_11 rfl rfl rfl rfl rfl rfl ?_
    refine sp_M_finding (k := 1) (by decide) (by decide) (by decide) hS ?_
    show Wq 7 0 0 mM_plan 35 [iR 80, iI x1, iI x2, iI x3, none] [vI (-1000001)] (sI M 83 1 (wr (gI M 83 1 + 1))) _
    refine wq_ireturn (pc := 35) dM_plan_35 trivial ?_
    exact H

set_option maxRecDepth 20000 in
theorem B_M_plan_47 {x1 x2 x3 y0 : Int} {M : Mm} {Q : Mm → Option Mv → Prop} (H : Q M (some (vI y0))) : Wq 7 0 0 mM_plan 47 [iR 80, iI x1, iI x2, iI x3, none] [vI y0] M Q := by
  refine wq_ireturn (pc := 47) dM_plan_47 trivial ?_
  exact H

set_option maxRecDepth 20000 in
theorem B_M_plan_53 {x1 x2 x3 y0 : Int} {M : Mm} {Q : Mm → Option Mv → Prop} (hS : RefOK M) (H : ((¬ x3 = 0 → ((0 ≤ x2 ∧ x2 < 16) ∧ Q M (some (vI (gI M 90 x2))))) ∧ (x3 = 0 → ((0 ≤ x2 ∧ x2 < 16) ∧ Q M (some (vI (gI M 89 x2))))))) : Wq 7 0 0 mM_plan 53 [iR 80, iI x1, iI x2, iI x3, none] [vI y0] M Q := by
  refine wq_istore (pc := 53) (lo' := [iR 80, iI x1, iI x2, iI x3, iI y0]) dM_plan_53 rfl rfl ?_
  refine wq_iload_n (pc := 55) dM_plan_55 rfl rfl ?_
  refine wq_if_ne (pc := 56) (tgt := 68) dM_plan_56 (by decide) (fun c1 => ?_) (fun c1 => ?_)
  · have H := H.1 c1
    obtain ⟨s2, H⟩ := H
    refine wq_aload_n (pc := 68) dM_plan_68 rfl rfl ?_
    refine wq_getR (pc := 69) (z := 11) (b := 90) dM_plan_69 fO_M_37 sh_80 rfl rfl (rf_80_11 hS) ?_
    refine wq_iload_n (pc := 72) dM_plan_72 rfl rfl ?_
    refine wq_iald (pc := 73) dM_plan_73 sh_90 s2.1 s2.2 ?_
    refine wq_ireturn (pc := 74) dM_plan_74 trivial ?_
    exact H
  · have H := H.2 c1
    obtain ⟨s3, H⟩ := H
    refine wq_aload_n (pc := 59) dM_plan_59 rfl rfl ?_
    refine wq_getR (pc := 60) (z := 10) (b := 89) dM_plan_60 fO_M_34 sh_80 rfl rfl (rf_80_10 hS) ?_
    refine wq_iload_n (pc := 63) dM_plan_63 rfl rfl ?_
    refine wq_iald (pc := 64) dM_plan_64 sh_89 s3.1 s3.2 ?_
    refine wq_goto (pc := 65) (tgt := 74) dM_plan_65 (by decide) ?_
    refine wq_ireturn (pc := 74) dM_plan_74 trivial ?_
    exact H
set_option maxRecDepth 20000 in
theorem B_M_end_0 {x1 : Int} {M : Mm} {Q : Mm → Option Mv → Prop} (hS : RefOK M) (H : ((0 ≤ gI M 81 4 ∧ gI M 81 4 ≤ 20) ∧ ((0 ≤ x1 ∧ x1 < (2 : Int) ^ (gI M 81 4).toNat → Wq 5 0 0 mM_endBy 0 [iR 80, iI x1] [] M (fun M' v => Wq 6 0 0 mM_end 13 [iR 80, iI x1] (v.toList ++ []) M' Q)) ∧ (¬ (0 ≤ x1 ∧ x1 < (2 : Int) ^ (gI M 81 4).toNat) → Q (sI M 83 1 (wr (gI M 83 1 + 1))) (some (vI (-1000001))))))) : Wq 6 0 0 mM_end 0 [iR 80, iI x1] [] M Q := by
  obtain ⟨s1, H⟩ := H
  refine wq_aload_n (pc := 0) dM_end_0 rfl rfl ?_
  refine wq_iload_n (pc := 1) dM_end_1 rfl rfl ?_
  refine wq_callV (d' := 2) (pc := 2) (as := [vI x1]) (rest := []) (lo' := [iR 80, iI x1]) dM_end_2 mO_M_areEvents lV_M_168 sh_80 (by decide) cl_11 rfl rfl rfl rfl rfl rfl ?_
  refine sp_M_areEvents hS s1 (fun c2 => ?_) (fun c2 => ?_)
  · have H := H.1 c2
    show Wq 6 0 0 mM_end 5 [iR 80, iI x1] [vI 1] M _
    refine wq_if_eq (pc := 5) (tgt := 16) dM_end_5 (by decide) (fun q => absurd q (by decide)) (fun _ => ?_)
    refine wq_aload_n (pc := 8) dM_end_8 rfl rfl ?_
    refine wq_iload_n (pc := 9) dM_end_9 rfl rfl ?_
    refine wq_callV (d' := 5) (pc := 10) (as := [vI x1]) (rest := []) (lo' := [iR 80, iI x1]) dM_end_10 mO_M_endBy lV_M_162 sh_80 (by decide) cl_11 rfl rfl rfl rfl rfl rfl ?_
    exact H
  · have H := H.2 c2
    show Wq 6 0 0 mM_end 5 [iR 80, iI x1] [vI 0] M _
    refine wq_if_eq (pc := 5) (tgt := 16) dM_end_5 (by decide) (fun _ => ?_) (fun q => absurd (by decide) q)
    refine wq_aload_n (pc := 16) dM_end_16 rfl rfl ?_
    refine wq_ldc (pc := 17) (z := (-1000001)) dM_end_17 kO_M_78 (by decide) ?_
    refine wq_callV (d' := 1) (pc := 19) (as := [vI (-1000001)]) (rest := []) (lo' := [iR 80, iI ((-1000001))]) dM_end_19 mO_M_finding lV_M_79 sh_80 (by decide) cl_11 rfl rfl rfl rfl rfl rfl ?_
    refine sp_M_finding (k := 1) (by decide) (by decide) (by decide) hS ?_
    show Wq 6 0 0 mM_end 22 [iR 80, iI x1] [vI (-1000001)] (sI M 83 1 (wr (gI M 83 1 + 1))) _
    refine wq_ireturn (pc := 22) dM_end_22 trivial ?_
    exact H

set_option maxRecDepth 20000 in
theorem B_M_end_13 {x1 y0 : Int} {M : Mm} {Q : Mm → Option Mv → Prop} (H : Q M (some (vI y0))) : Wq 6 0 0 mM_end 13 [iR 80, iI x1] [vI y0] M Q := by
  refine wq_goto (pc := 13) (tgt := 22) dM_end_13 (by decide) ?_
  refine wq_ireturn (pc := 22) dM_end_22 trivial ?_
  exact H
set_option maxRecDepth 20000 in
theorem B_M_chain_0 {x1 x2 : Int} {M : Mm} {Q : Mm → Option Mv → Prop} (hS : RefOK M) (H : ((0 ≤ gI M 81 4 ∧ gI M 81 4 ≤ 20) ∧ ((0 ≤ x1 ∧ x1 < (2 : Int) ^ (gI M 81 4).toNat → ((0 ≤ x2 → Wq 5 0 0 mM_endBy 0 [iR 80, iI x1] [] M (fun M' v => Wq 6 0 0 mM_chain 24 [iR 80, iI x1, iI x2, none, none, none, none, none, none, none] (v.toList ++ []) M' Q)) ∧ (¬ 0 ≤ x2 → Q (sI M 83 1 (wr (gI M 83 1 + 1))) (some (vI (-1000001)))))) ∧ (¬ (0 ≤ x1 ∧ x1 < (2 : Int) ^ (gI M 81 4).toNat) → Q (sI M 83 1 (wr (gI M 83 1 + 1))) (some (vI (-1000001))))))) : Wq 6 0 0 mM_chain 0 [iR 80, iI x1, iI x2, none, none, none, none, none, none, none] [] M Q := by
  obtain ⟨s1, H⟩ := H
  refine wq_aload_n (pc := 0) dM_chain_0 rfl rfl ?_
  refine wq_iload_n (pc := 1) dM_chain_1 rfl rfl ?_
  refine wq_callV (d' := 2) (pc := 2) (as := [vI x1]) (rest := []) (lo' := [iR 80, iI x1]) dM_chain_2 mO_M_areEvents lV_M_168 sh_80 (by decide) cl_11 rfl rfl rfl rfl rfl rfl ?_
  refine sp_M_areEvents hS s1 (fun c2 => ?_) (fun c2 => ?_)
  · have H := H.1 c2
    show Wq 6 0 0 mM_chain 5 [iR 80, iI x1, iI x2, none, none, none, none, none, none, none] [vI 1] M _
    refine wq_if_eq (pc := 5) (tgt := 12) dM_chain_5 (by decide) (fun q => absurd q (by decide)) (fun _ => ?_)
    refine wq_iload_n (pc := 8) dM_chain_8 rfl rfl ?_
    refine wq_if_ge (pc := 9) (tgt := 19) dM_chain_9 (by decide) (fun c3 => ?_) (fun c3 => ?_)
    · have H := H.1 c3
      refine wq_aload_n (pc := 19) dM_chain_19 rfl rfl ?_
      refine wq_iload_n (pc := 20) dM_chain_20 rfl rfl ?_
      refine wq_callV (d' := 5) (pc := 21) (as := [vI x1]) (rest := []) (lo' := [iR 80, iI x1]) dM_chain_21 mO_M_endBy lV_M_162 sh_80 (by decide) cl_11 rfl rfl rfl rfl rfl rfl ?_
      exact H
    · have H := H.2 c3
      refine wq_aload_n (pc := 12) dM_chain_12 rfl rfl ?_
      refine wq_ldc (pc := 13) (z := (-1000001)) dM_chain_13 kO_M_78 (by decide) ?_
      refine wq_callV (d' := 1) (pc := 15) (as := [vI (-1000001)]) (rest := []) (lo' := [iR 80, iI ((-1000001))]) dM_chain_15 mO_M_finding lV_M_79 sh_80 (by decide) cl_11 rfl rfl rfl rfl rfl rfl ?_
      refine sp_M_finding (k := 1) (by decide) (by decide) (by decide) hS ?_
      show Wq 6 0 0 mM_chain 18 [iR 80, iI x1, iI x2, none, none, none, none, none, none, none] [vI (-1000001)] (sI M 83 1 (wr (gI M 83 1 + 1))) _
      refine wq_ireturn (pc := 18) dM_chain_18 trivial ?_
      exact H
  · have H := H.2 c2
    show Wq 6 0 0 mM_chain 5 [iR 80, iI x1, iI x2, none, none, none, none, none, none, none] [vI 0] M _
    refine wq_if_eq (pc := 5) (tgt := 12) dM_chain_5 (by decide) (fun _ => ?_) (fun q => absurd (by decide) q)
    refine wq_aload_n (pc := 12) dM_chain_12 rfl rfl ?_
    refine wq_ldc (pc := 13) (z := (-1000001)) dM_chain_13 kO_M_78 (by decide) ?_
    refine wq_callV (d' := 1) (pc := 15) (as := [vI (-1000001)]) (rest := []) (lo' := [iR 80, iI ((-1000001))]) dM_chain_15 mO_M_finding lV_M_79 sh_80 (by decide) cl_11 rfl rfl rfl rfl rfl rfl ?_
    refine sp_M_finding (k := 1) (by decide) (by decide) (by decide) hS ?_
    show Wq 6 0 0 mM_chain 18 [iR 80, iI x1, iI x2, none, none, none, none, none, none, none] [vI (-1000001)] (sI M 83 1 (wr (gI M 83 1 + 1))) _
    refine wq_ireturn (pc := 18) dM_chain_18 trivial ?_
    exact H

set_option maxRecDepth 20000 in
theorem B_M_chain_24 {x1 x2 y0 : Int} {M : Mm} {Q : Mm → Option Mv → Prop} (hS : RefOK M) (H : ((-2147483648 ≤ gI M 81 2 - 1 ∧ gI M 81 2 - 1 < 2147483648) ∧ Wq 6 0 0 mM_chain 38 [iR 80, iI x1, iI x2, iI y0, iI ((-1)), iI (gI M 81 2 - 1), none, none, none, none] [] M Q)) : Wq 6 0 0 mM_chain 24 [iR 80, iI x1, iI x2, none, none, none, none, none, none, none] [vI y0] M Q := by
  obtain ⟨s1, H⟩ := H
  refine wq_istore_n (pc := 24) (lo' := [iR 80, iI x1, iI x2, iI y0, none, none, none, none, none, none]) dM_chain_24 rfl rfl rfl ?_
  refine wq_iconst (pc := 25) dM_chain_25 rfl ?_
  refine wq_istore (pc := 26) (lo' := [iR 80, iI x1, iI x2, iI y0, iI ((-1)), none, none, none, none, none]) dM_chain_26 rfl rfl ?_
  refine wq_aload_n (pc := 28) dM_chain_28 rfl rfl ?_
  refine wq_getR (pc := 29) (z := 0) (b := 81) dM_chain_29 fO_M_9 sh_80 rfl rfl (rf_80_0 hS) ?_
  refine wq_iconst (pc := 32) dM_chain_32 rfl ?_
  refine wq_iald (pc := 33) dM_chain_33 sh_81 (by decide) (by decide) ?_
  refine wq_iconst (pc := 34) dM_chain_34 rfl ?_
  refine wq_isub (pc := 35) dM_chain_35 ?_
  refine wq_re (x := (wr (gI M 81 2 - 1))) (y := (gI M 81 2 - 1)) (Eq.trans (wr_eq (by omega) (by omega)) (by omega)) ?_
  refine wq_istore (pc := 36) (lo' := [iR 80, iI x1, iI x2, iI y0, iI ((-1)), iI (gI M 81 2 - 1), none, none, none, none]) dM_chain_36 rfl rfl ?_
  exact H

set_option maxRecDepth 20000 in
theorem B_M_chain_38 {x1 x2 x3 x4 x5 : Int} {M : Mm} {Q : Mm → Option Mv → Prop} (hS : RefOK M) (H : ((x5 < 0 → Wq 6 0 0 mM_chain 72 [iR 80, iI x1, iI x2, iI x3, iI x4, iI 0, none, none, none, none] [] M Q) ∧ (¬ x5 < 0 → ((0 ≤ x5 ∧ x5 < 16) ∧ ((¬ gI M 90 x5 = x3 → ((-2147483648 ≤ x5 - 1 ∧ x5 - 1 < 2147483648) ∧ Wq 6 0 0 mM_chain 38 [iR 80, iI x1, iI x2, iI x3, iI x4, iI (x5 - 1), none, none, none, none] [] M Q)) ∧ (gI M 90 x5 = x3 → ((-2147483648 ≤ x5 - 1 ∧ x5 - 1 < 2147483648) ∧ Wq 6 0 0 mM_chain 38 [iR 80, iI x1, iI x2, iI x3, iI x5, iI (x5 - 1), none, none, none, none] [] M Q))))))) : Wq 6 0 0 mM_chain 38 [iR 80, iI x1, iI x2, iI x3, iI x4, iI x5, none, none, none, none] [] M Q := by
  refine wq_iload (pc := 38) dM_chain_38 rfl ?_
  refine wq_if_lt (pc := 40) (tgt := 69) dM_chain_40 (by decide) (fun c1 => ?_) (fun c1 => ?_)
  · have H := H.1 c1
    refine wq_iconst (pc := 69) dM_chain_69 rfl ?_
    refine wq_istore (pc := 70) (lo' := [iR 80, iI x1, iI x2, iI x3, iI x4, iI 0, none, none, none, none]) dM_chain_70 rfl rfl ?_
    exact H
  · have H := H.2 c1
    obtain ⟨s2, H⟩ := H
    refine wq_aload_n (pc := 43) dM_chain_43 rfl rfl ?_
    refine wq_getR (pc := 44) (z := 11) (b := 90) dM_chain_44 fO_M_37 sh_80 rfl rfl (rf_80_11 hS) ?_
    refine wq_iload (pc := 47) dM_chain_47 rfl ?_
    refine wq_iald (pc := 49) dM_chain_49 sh_90 s2.1 s2.2 ?_
    refine wq_iload_n (pc := 50) dM_chain_50 rfl rfl ?_
    refine wq_icmp_ne (pc := 51) (tgt := 59) dM_chain_51 (by decide) (fun c3 => ?_) (fun c3 => ?_)
    · have H := H.1 c3
      obtain ⟨s4, H⟩ := H
      refine wq_iload (pc := 59) dM_chain_59 rfl ?_
      refine wq_istore (pc := 61) (lo' := [iR 80, iI x1, iI x2, iI x3, iI x4, iI x5, none, none, none, none]) dM_chain_61 rfl rfl ?_
      refine wq_iinc (pc := 63) (lo' := [iR 80, iI x1, iI x2, iI x3, iI x4, iI (x5 - 1), none, none, none, none]) dM_chain_63 rfl rfl (by rw [show wr (x5 + (-1)) = x5 - 1 from (Eq.trans (wr_eq (by omega) (by omega)) (by omega))]; rfl) ?_
      refine wq_goto (pc := 66) (tgt := 38) dM_chain_66 (by decide) ?_
      exact H
    · have H := H.2 c3
      obtain ⟨s5, H⟩ := H
      refine wq_iload (pc := 54) dM_chain_54 rfl ?_
      refine wq_goto (pc := 56) (tgt := 61) dM_chain_56 (by decide) ?_
      refine wq_istore (pc := 61) (lo' := [iR 80, iI x1, iI x2, iI x3, iI x5, iI x5, none, none, none, none]) dM_chain_61 rfl rfl ?_
      refine wq_iinc (pc := 63) (lo' := [iR 80, iI x1, iI x2, iI x3, iI x5, iI (x5 - 1), none, none, none, none]) dM_chain_63 rfl rfl (by rw [show wr (x5 + (-1)) = x5 - 1 from (Eq.trans (wr_eq (by omega) (by omega)) (by omega))]; rfl) ?_
      refine wq_goto (pc := 66) (tgt := 38) dM_chain_66 (by decide) ?_
      exact H

set_option maxRecDepth 20000 in
theorem B_M_chain_72 {x1 x2 x3 x4 x5 : Int} {M : Mm} {Q : Mm → Option Mv → Prop} (hS : RefOK M) (H : ((x2 ≤ x5 → ((0 ≤ x4 → Q M (some (vI x4))) ∧ (¬ 0 ≤ x4 → Q (sI M 83 2 (wr (gI M 83 2 + 1))) (some (vI (-1000002)))))) ∧ (¬ x2 ≤ x5 → ((x4 < 0 → ((0 ≤ x4 → Q M (some (vI x4))) ∧ (¬ 0 ≤ x4 → Q (sI M 83 2 (wr (gI M 83 2 + 1))) (some (vI (-1000002)))))) ∧ (¬ x4 < 0 → Wq 6 0 0 mM_chain 89 [iR 80, iI x1, iI x2, iI x3, iI x4, iI x5, iI ((-1)), iI 0, none, none] [] M Q))))) : Wq 6 0 0 mM_chain 72 [iR 80, iI x1, iI x2, iI x3, iI x4, iI x5, none, none, none, none] [] M Q := by
  refine wq_iload (pc := 72) dM_chain_72 rfl ?_
  refine wq_iload_n (pc := 74) dM_chain_74 rfl rfl ?_
  refine wq_icmp_ge (pc := 75) (tgt := 214) dM_chain_75 (by decide) (fun c1 => ?_) (fun c1 => ?_)
  · have H := H.1 c1
    refine wq_iload (pc := 214) dM_chain_214 rfl ?_
    refine wq_if_ge (pc := 216) (tgt := 228) dM_chain_216 (by decide) (fun c2 => ?_) (fun c2 => ?_)
    · have H := H.1 c2
      refine wq_iload (pc := 228) dM_chain_228 rfl ?_
      refine wq_ireturn (pc := 230) dM_chain_230 trivial ?_
      exact H
    · have H := H.2 c2
      refine wq_aload_n (pc := 219) dM_chain_219 rfl rfl ?_
      refine wq_ldc (pc := 220) (z := (-1000002)) dM_chain_220 kO_M_114 (by decide) ?_
      refine wq_callV (d' := 1) (pc := 222) (as := [vI (-1000002)]) (rest := []) (lo' := [iR 80, iI ((-1000002))]) dM_chain_222 mO_M_finding lV_M_79 sh_80 (by decide) cl_11 rfl rfl rfl rfl rfl rfl ?_
      refine sp_M_finding (k := 2) (by decide) (by decide) (by decide) hS ?_
      show Wq 6 0 0 mM_chain 225 [iR 80, iI x1, iI x2, iI x3, iI x4, iI x5, none, none, none, none] [vI (-1000002)] (sI M 83 2 (wr (gI M 83 2 + 1))) _
      refine wq_goto (pc := 225) (tgt := 230) dM_chain_225 (by decide) ?_
      refine wq_ireturn (pc := 230) dM_chain_230 trivial ?_
      exact H
  · have H := H.2 c1
    refine wq_iload (pc := 78) dM_chain_78 rfl ?_
    refine wq_if_lt (pc := 80) (tgt := 214) dM_chain_80 (by decide) (fun c3 => ?_) (fun c3 => ?_)
    · have H := H.1 c3
      refine wq_iload (pc := 214) dM_chain_214 rfl ?_
      refine wq_if_ge (pc := 216) (tgt := 228) dM_chain_216 (by decide) (fun c4 => ?_) (fun c4 => ?_)
      · have H := H.1 c4
        refine wq_iload (pc := 228) dM_chain_228 rfl ?_
        refine wq_ireturn (pc := 230) dM_chain_230 trivial ?_
        exact H
      · have H := H.2 c4
        refine wq_aload_n (pc := 219) dM_chain_219 rfl rfl ?_
        refine wq_ldc (pc := 220) (z := (-1000002)) dM_chain_220 kO_M_114 (by decide) ?_
        refine wq_callV (d' := 1) (pc := 222) (as := [vI (-1000002)]) (rest := []) (lo' := [iR 80, iI ((-1000002))]) dM_chain_222 mO_M_finding lV_M_79 sh_80 (by decide) cl_11 rfl rfl rfl rfl rfl rfl ?_
        refine sp_M_finding (k := 2) (by decide) (by decide) (by decide) hS ?_
        show Wq 6 0 0 mM_chain 225 [iR 80, iI x1, iI x2, iI x3, iI x4, iI x5, none, none, none, none] [vI (-1000002)] (sI M 83 2 (wr (gI M 83 2 + 1))) _
        refine wq_goto (pc := 225) (tgt := 230) dM_chain_225 (by decide) ?_
        refine wq_ireturn (pc := 230) dM_chain_230 trivial ?_
        exact H
    · have H := H.2 c3
      refine wq_iconst (pc := 83) dM_chain_83 rfl ?_
      refine wq_istore (pc := 84) (lo' := [iR 80, iI x1, iI x2, iI x3, iI x4, iI x5, iI ((-1)), none, none, none]) dM_chain_84 rfl rfl ?_
      refine wq_iconst (pc := 86) dM_chain_86 rfl ?_
      refine wq_istore (pc := 87) (lo' := [iR 80, iI x1, iI x2, iI x3, iI x4, iI x5, iI ((-1)), iI 0, none, none]) dM_chain_87 rfl rfl ?_
      exact H

set_option maxRecDepth 20000 in
theorem B_M_chain_89 {x1 x2 x3 x4 x5 x6 x7 : Int} {M : Mm} {Q : Mm → Option Mv → Prop} (hS : RefOK M) (H : ((gI M 81 3 ≤ x7 → ((-2147483648 ≤ x5 + 1 ∧ x5 + 1 < 2147483648) ∧ Wq 6 0 0 mM_chain 72 [iR 80, iI x1, iI x2, iI x3, iI x6, iI (x5 + 1), none, none, none, none] [] M Q)) ∧ (¬ gI M 81 3 ≤ x7 → (((0 ≤ 58 + 3 * x7 ∧ 58 + 3 * x7 < 1993) ∧ (0 ≤ 59 + 3 * x7 ∧ 59 + 3 * x7 < 1993)) ∧ ((¬ gI M 81 (59 + 3 * x7) = x4 → ((-2147483648 ≤ x7 + 1 ∧ x7 + 1 < 2147483648) ∧ Wq 6 0 0 mM_chain 89 [iR 80, iI x1, iI x2, iI x3, iI x4, iI x5, iI x6, iI (x7 + 1), none, none] [] M Q)) ∧ (gI M 81 (59 + 3 * x7) = x4 → (((0 ≤ gI M 81 (58 + 3 * x7) ∧ gI M 81 (58 + 3 * x7) < 16) ∧ (0 ≤ 60 + 3 * x7 ∧ 60 + 3 * x7 < 1993) ∧ (0 ≤ x4 ∧ x4 < 16) ∧ (-2147483648 ≤ gI M 90 (gI M 81 (58 + 3 * x7)) + gI M 81 (60 + 3 * x7) ∧ gI M 90 (gI M 81 (58 + 3 * x7)) + gI M 81 (60 + 3 * x7) < 2147483648)) ∧ ((¬ gI M 90 (gI M 81 (58 + 3 * x7)) + gI M 81 (60 + 3 * x7) = gI M 89 x4 → ((-2147483648 ≤ x7 + 1 ∧ x7 + 1 < 2147483648) ∧ Wq 6 0 0 mM_chain 89 [iR 80, iI x1, iI x2, iI x3, iI x4, iI x5, iI x6, iI (x7 + 1), none, none] [] M Q)) ∧ (gI M 90 (gI M 81 (58 + 3 * x7)) + gI M 81 (60 + 3 * x7) = gI M 89 x4 → ((x6 < 0 → ((-2147483648 ≤ x7 + 1 ∧ x7 + 1 < 2147483648) ∧ Wq 6 0 0 mM_chain 89 [iR 80, iI x1, iI x2, iI x3, iI x4, iI x5, iI (gI M 81 (58 + 3 * x7)), iI (x7 + 1), none, none] [] M Q)) ∧ (¬ x6 < 0 → ((x6 ≤ gI M 81 (58 + 3 * x7) → ((-2147483648 ≤ x7 + 1 ∧ x7 + 1 < 2147483648) ∧ Wq 6 0 0 mM_chain 89 [iR 80, iI x1, iI x2, iI x3, iI x4, iI x5, iI x6, iI (x7 + 1), none, none] [] M Q)) ∧ (¬ x6 ≤ gI M 81 (58 + 3 * x7) → ((-2147483648 ≤ x7 + 1 ∧ x7 + 1 < 2147483648) ∧ Wq 6 0 0 mM_chain 89 [iR 80, iI x1, iI x2, iI x3, iI x4, iI x5, iI (gI M 81 (58 + 3 * x7)), iI (x7 + 1), none, none] [] M Q)))))))))))))) : Wq 6 0 0 mM_chain 89 [iR 80, iI x1, iI x2, iI x3, iI x4, iI x5, iI x6, iI x7, none, none] [] M Q := by
  refine wq_iload (pc := 89) dM_chain_89 rfl ?_
  refine wq_aload_n (pc := 91) dM_chain_91 rfl rfl ?_
  refine wq_getR (pc := 92) (z := 0) (b := 81) dM_chain_92 fO_M_9 sh_80 rfl rfl (rf_80_0 hS) ?_
  refine wq_iconst (pc := 95) dM_chain_95 rfl ?_
  refine wq_iald (pc := 96) dM_chain_96 sh_81 (by decide) (by decide) ?_
  refine wq_icmp_ge (pc := 97) (tgt := 204) dM_chain_97 (by decide) (fun c1 => ?_) (fun c1 => ?_)
  · have H := H.1 c1
    obtain ⟨s2, H⟩ := H
    refine wq_iload (pc := 204) dM_chain_204 rfl ?_
    refine wq_istore (pc := 206) (lo' := [iR 80, iI x1, iI x2, iI x3, iI x6, iI x5, iI x6, iI x7, none, none]) dM_chain_206 rfl rfl ?_
    refine wq_iinc (pc := 208) (lo' := [iR 80, iI x1, iI x2, iI x3, iI x6, iI (x5 + 1), iI x6, iI x7, none, none]) dM_chain_208 rfl rfl (by rw [show wr (x5 + 1) = x5 + 1 from (Eq.trans (wr_eq (by omega) (by omega)) (by omega))]; rfl) ?_
    refine wq_goto (pc := 211) (tgt := 72) dM_chain_211 (by decide) ?_
    refine wq_drop [6, 7] (lo' := [iR 80, iI x1, iI x2, iI x3, iI x6, iI (x5 + 1), none, none, none, none]) rfl ?_
    exact H
  · have H := H.2 c1
    obtain ⟨⟨s3, s4⟩, H⟩ := H
    refine wq_aload_n (pc := 100) dM_chain_100 rfl rfl ?_
    refine wq_getR (pc := 101) (z := 0) (b := 81) dM_chain_101 fO_M_9 sh_80 rfl rfl (rf_80_0 hS) ?_
    refine wq_bipush (pc := 104) dM_chain_104 rfl ?_
    refine wq_iconst (pc := 106) dM_chain_106 rfl ?_
    refine wq_iload (pc := 107) dM_chain_107 rfl ?_
    refine wq_imul (pc := 109) dM_chain_109 ?_
    refine wq_iadd (pc := 110) dM_chain_110 ?_
    refine wq_re (x := (wr (58 + wr (3 * x7)))) (y := (58 + 3 * x7)) (by (try simp only [wr_al, wr_ar, wr_sl, wr_sr, wr_ml, wr_mr, wr_nn, wr_ww]); exact Eq.trans (wr_eq (by omega) (by omega)) (by omega)) ?_
    refine wq_iald (pc := 111) dM_chain_111 sh_81 s3.1 s3.2 ?_
    refine wq_istore (pc := 112) (lo' := [iR 80, iI x1, iI x2, iI x3, iI x4, iI x5, iI x6, iI x7, iI (gI M 81 (58 + 3 * x7)), none]) dM_chain_112 rfl rfl ?_
    refine wq_aload_n (pc := 114) dM_chain_114 rfl rfl ?_
    refine wq_getR (pc := 115) (z := 0) (b := 81) dM_chain_115 fO_M_9 sh_80 rfl rfl (rf_80_0 hS) ?_
    refine wq_bipush (pc := 118) dM_chain_118 rfl ?_
    refine wq_iconst (pc := 120) dM_chain_120 rfl ?_
    refine wq_iload (pc := 121) dM_chain_121 rfl ?_
    refine wq_imul (pc := 123) dM_chain_123 ?_
    refine wq_iadd (pc := 124) dM_chain_124 ?_
    refine wq_iconst (pc := 125) dM_chain_125 rfl ?_
    refine wq_iadd (pc := 126) dM_chain_126 ?_
    refine wq_re (x := (wr (wr (58 + wr (3 * x7)) + 1))) (y := (59 + 3 * x7)) (by (try simp only [wr_al, wr_ar, wr_sl, wr_sr, wr_ml, wr_mr, wr_nn, wr_ww]); exact Eq.trans (wr_eq (by omega) (by omega)) (by omega)) ?_
    refine wq_iald (pc := 127) dM_chain_127 sh_81 s4.1 s4.2 ?_
    refine wq_iload (pc := 128) dM_chain_128 rfl ?_
    refine wq_icmp_ne (pc := 130) (tgt := 169) dM_chain_130 (by decide) (fun c5 => ?_) (fun c5 => ?_)
    · have H := H.1 c5
      obtain ⟨s6, H⟩ := H
      refine wq_iconst (pc := 169) dM_chain_169 rfl ?_
      refine wq_istore (pc := 170) (lo' := [iR 80, iI x1, iI x2, iI x3, iI x4, iI x5, iI x6, iI x7, iI (gI M 81 (58 + 3 * x7)), iI 0]) dM_chain_170 rfl rfl ?_
      refine wq_iload (pc := 172) dM_chain_172 rfl ?_
      refine wq_if_eq (pc := 174) (tgt := 194) dM_chain_174 (by decide) (fun _ => ?_) (fun q => absurd (by decide) q)
      refine wq_iload (pc := 194) dM_chain_194 rfl ?_
      refine wq_istore (pc := 196) (lo' := [iR 80, iI x1, iI x2, iI x3, iI x4, iI x5, iI x6, iI x7, iI (gI M 81 (58 + 3 * x7)), iI 0]) dM_chain_196 rfl rfl ?_
      refine wq_iinc (pc := 198) (lo' := [iR 80, iI x1, iI x2, iI x3, iI x4, iI x5, iI x6, iI (x7 + 1), iI (gI M 81 (58 + 3 * x7)), iI 0]) dM_chain_198 rfl rfl (by rw [show wr (x7 + 1) = x7 + 1 from (Eq.trans (wr_eq (by omega) (by omega)) (by omega))]; rfl) ?_
      refine wq_goto (pc := 201) (tgt := 89) dM_chain_201 (by decide) ?_
      refine wq_drop [8, 9] (lo' := [iR 80, iI x1, iI x2, iI x3, iI x4, iI x5, iI x6, iI (x7 + 1), none, none]) rfl ?_
      exact H
    · have H := H.2 c5
      obtain ⟨⟨s7, s8, s9, s10⟩, H⟩ := H
      refine wq_aload_n (pc := 133) dM_chain_133 rfl rfl ?_
      refine wq_getR (pc := 134) (z := 11) (b := 90) dM_chain_134 fO_M_37 sh_80 rfl rfl (rf_80_11 hS) ?_
      refine wq_iload (pc := 137) dM_chain_137 rfl ?_
      refine wq_iald (pc := 139) dM_chain_139 sh_90 s7.1 s7.2 ?_
      refine wq_aload_n (pc := 140) dM_chain_140 rfl rfl ?_
      refine wq_getR (pc := 141) (z := 0) (b := 81) dM_chain_141 fO_M_9 sh_80 rfl rfl (rf_80_0 hS) ?_
      refine wq_bipush (pc := 144) dM_chain_144 rfl ?_
      refine wq_iconst (pc := 146) dM_chain_146 rfl ?_
      refine wq_iload (pc := 147) dM_chain_147 rfl ?_
      refine wq_imul (pc := 149) dM_chain_149 ?_
      refine wq_iadd (pc := 150) dM_chain_150 ?_
      refine wq_iconst (pc := 151) dM_chain_151 rfl ?_
      refine wq_iadd (pc := 152) dM_chain_152 ?_
      refine wq_re (x := (wr (wr (58 + wr (3 * x7)) + 2))) (y := (60 + 3 * x7)) (by (try simp only [wr_al, wr_ar, wr_sl, wr_sr, wr_ml, wr_mr, wr_nn, wr_ww]); exact Eq.trans (wr_eq (by omega) (by omega)) (by omega)) ?_
      refine wq_iald (pc := 153) dM_chain_153 sh_81 s8.1 s8.2 ?_
      refine wq_iadd (pc := 154) dM_chain_154 ?_
      refine wq_aload_n (pc := 155) dM_chain_155 rfl rfl ?_
      refine wq_getR (pc := 156) (z := 10) (b := 89) dM_chain_156 fO_M_34 sh_80 rfl rfl (rf_80_10 hS) ?_
      refine wq_iload (pc := 159) dM_chain_159 rfl ?_
      refine wq_iald (pc := 161) dM_chain_161 sh_89 s9.1 s9.2 ?_
      refine wq_re2 (x := (wr (gI M 90 (gI M 81 (58 + 3 * x7)) + gI M 81 (60 + 3 * x7)))) (y := (gI M 90 (gI M 81 (58 + 3 * x7)) + gI M 81 (60 + 3 * x7))) (Eq.trans (wr_eq (by omega) (by omega)) (by omega)) ?_
      refine wq_icmp_ne (pc := 162) (tgt := 169) dM_chain_162 (by decide) (fun c11 => ?_) (fun c11 => ?_)
      · have H := H.1 c11
        obtain ⟨s12, H⟩ := H
        refine wq_iconst (pc := 169) dM_chain_169 rfl ?_
        refine wq_istore (pc := 170) (lo' := [iR 80, iI x1, iI x2, iI x3, iI x4, iI x5, iI x6, iI x7, iI (gI M 81 (58 + 3 * x7)), iI 0]) dM_chain_170 rfl rfl ?_
        refine wq_iload (pc := 172) dM_chain_172 rfl ?_
        refine wq_if_eq (pc := 174) (tgt := 194) dM_chain_174 (by decide) (fun _ => ?_) (fun q => absurd (by decide) q)
        refine wq_iload (pc := 194) dM_chain_194 rfl ?_
        refine wq_istore (pc := 196) (lo' := [iR 80, iI x1, iI x2, iI x3, iI x4, iI x5, iI x6, iI x7, iI (gI M 81 (58 + 3 * x7)), iI 0]) dM_chain_196 rfl rfl ?_
        refine wq_iinc (pc := 198) (lo' := [iR 80, iI x1, iI x2, iI x3, iI x4, iI x5, iI x6, iI (x7 + 1), iI (gI M 81 (58 + 3 * x7)), iI 0]) dM_chain_198 rfl rfl (by rw [show wr (x7 + 1) = x7 + 1 from (Eq.trans (wr_eq (by omega) (by omega)) (by omega))]; rfl) ?_
        refine wq_goto (pc := 201) (tgt := 89) dM_chain_201 (by decide) ?_
        refine wq_drop [8, 9] (lo' := [iR 80, iI x1, iI x2, iI x3, iI x4, iI x5, iI x6, iI (x7 + 1), none, none]) rfl ?_
        exact H
      · have H := H.2 c11
        refine wq_iconst (pc := 165) dM_chain_165 rfl ?_
        refine wq_goto (pc := 166) (tgt := 170) dM_chain_166 (by decide) ?_
        refine wq_istore (pc := 170) (lo' := [iR 80, iI x1, iI x2, iI x3, iI x4, iI x5, iI x6, iI x7, iI (gI M 81 (58 + 3 * x7)), iI 1]) dM_chain_170 rfl rfl ?_
        refine wq_iload (pc := 172) dM_chain_172 rfl ?_
        refine wq_if_eq (pc := 174) (tgt := 194) dM_chain_174 (by decide) (fun q => absurd q (by decide)) (fun _ => ?_)
        refine wq_iload (pc := 177) dM_chain_177 rfl ?_
        refine wq_if_lt (pc := 179) (tgt := 189) dM_chain_179 (by decide) (fun c13 => ?_) (fun c13 => ?_)
        · have H := H.1 c13
          obtain ⟨s14, H⟩ := H
          refine wq_iload (pc := 189) dM_chain_189 rfl ?_
          refine wq_goto (pc := 191) (tgt := 196) dM_chain_191 (by decide) ?_
          refine wq_istore (pc := 196) (lo' := [iR 80, iI x1, iI x2, iI x3, iI x4, iI x5, iI (gI M 81 (58 + 3 * x7)), iI x7, iI (gI M 81 (58 + 3 * x7)), iI 1]) dM_chain_196 rfl rfl ?_
          refine wq_iinc (pc := 198) (lo' := [iR 80, iI x1, iI x2, iI x3, iI x4, iI x5, iI (gI M 81 (58 + 3 * x7)), iI (x7 + 1), iI (gI M 81 (58 + 3 * x7)), iI 1]) dM_chain_198 rfl rfl (by rw [show wr (x7 + 1) = x7 + 1 from (Eq.trans (wr_eq (by omega) (by omega)) (by omega))]; rfl) ?_
          refine wq_goto (pc := 201) (tgt := 89) dM_chain_201 (by decide) ?_
          refine wq_drop [8, 9] (lo' := [iR 80, iI x1, iI x2, iI x3, iI x4, iI x5, iI (gI M 81 (58 + 3 * x7)), iI (x7 + 1), none, none]) rfl ?_
          exact H
        · have H := H.2 c13
          refine wq_iload (pc := 182) dM_chain_182 rfl ?_
          refine wq_iload (pc := 184) dM_chain_184 rfl ?_
          refine wq_icmp_ge (pc := 186) (tgt := 194) dM_chain_186 (by decide) (fun c15 => ?_) (fun c15 => ?_)
          · have H := H.1 c15
            obtain ⟨s16, H⟩ := H
            refine wq_iload (pc := 194) dM_chain_194 rfl ?_
            refine wq_istore (pc := 196) (lo' := [iR 80, iI x1, iI x2, iI x3, iI x4, iI x5, iI x6, iI x7, iI (gI M 81 (58 + 3 * x7)), iI 1]) dM_chain_196 rfl rfl ?_
            refine wq_iinc (pc := 198) (lo' := [iR 80, iI x1, iI x2, iI x3, iI x4, iI x5, iI x6, iI (x7 + 1), iI (gI M 81 (58 + 3 * x7)), iI 1]) dM_chain_198 rfl rfl (by rw [show wr (x7 + 1) = x7 + 1 from (Eq.trans (wr_eq (by omega) (by omega)) (by omega))]; rfl) ?_
            refine wq_goto (pc := 201) (tgt := 89) dM_chain_201 (by decide) ?_
            refine wq_drop [8, 9] (lo' := [iR 80, iI x1, iI x2, iI x3, iI x4, iI x5, iI x6, iI (x7 + 1), none, none]) rfl ?_
            exact H
          · have H := H.2 c15
            obtain ⟨s17, H⟩ := H
            refine wq_iload (pc := 189) dM_chain_189 rfl ?_
            refine wq_goto (pc := 191) (tgt := 196) dM_chain_191 (by decide) ?_
            refine wq_istore (pc := 196) (lo' := [iR 80, iI x1, iI x2, iI x3, iI x4, iI x5, iI (gI M 81 (58 + 3 * x7)), iI x7, iI (gI M 81 (58 + 3 * x7)), iI 1]) dM_chain_196 rfl rfl ?_
            refine wq_iinc (pc := 198) (lo' := [iR 80, iI x1, iI x2, iI x3, iI x4, iI x5, iI (gI M 81 (58 + 3 * x7)), iI (x7 + 1), iI (gI M 81 (58 + 3 * x7)), iI 1]) dM_chain_198 rfl rfl (by rw [show wr (x7 + 1) = x7 + 1 from (Eq.trans (wr_eq (by omega) (by omega)) (by omega))]; rfl) ?_
            refine wq_goto (pc := 201) (tgt := 89) dM_chain_201 (by decide) ?_
            refine wq_drop [8, 9] (lo' := [iR 80, iI x1, iI x2, iI x3, iI x4, iI x5, iI (gI M 81 (58 + 3 * x7)), iI (x7 + 1), none, none]) rfl ?_
            exact H
set_option maxRecDepth 20000 in
theorem B_M_isAhead_0 {x1 x2 : Int} {M : Mm} {Q : Mm → Option Mv → Prop} (hS : RefOK M) (H : (((0 ≤ 150 + 7 * x1 ∧ 150 + 7 * x1 < 1993) ∧ (0 ≤ 150 + 7 * x2 ∧ 150 + 7 * x2 < 1993)) ∧ ((gI M 81 (150 + 7 * x1) < gI M 81 (150 + 7 * x2) → Q M (some (vI 1))) ∧ (¬ gI M 81 (150 + 7 * x1) < gI M 81 (150 + 7 * x2) → (((0 ≤ 150 + 7 * x1 ∧ 150 + 7 * x1 < 1993) ∧ (0 ≤ 150 + 7 * x2 ∧ 150 + 7 * x2 < 1993)) ∧ ((¬ gI M 81 (150 + 7 * x1) = gI M 81 (150 + 7 * x2) → Q M (some (vI 0))) ∧ (gI M 81 (150 + 7 * x1) = gI M 81 (150 + 7 * x2) → ((x2 ≤ x1 → Q M (some (vI 0))) ∧ (¬ x2 ≤ x1 → Q M (some (vI 1))))))))))) : Wq 2 0 0 mM_isAhead 0 [iR 80, iI x1, iI x2] [] M Q := by
  obtain ⟨⟨s1, s2⟩, H⟩ := H
  refine wq_aload_n (pc := 0) dM_isAhead_0 rfl rfl ?_
  refine wq_iload_n (pc := 1) dM_isAhead_1 rfl rfl ?_
  refine wq_iconst (pc := 2) dM_isAhead_2 rfl ?_
  refine wq_callV (d' := 1) (pc := 3) (as := [vI x1, vI 2]) (rest := []) (lo' := [iR 80, iI x1, iI 2]) dM_isAhead_3 mO_M_event2 lV_M_123 sh_80 (by decide) cl_11 rfl rfl rfl rfl rfl rfl ?_
  refine sp_M_event2 (i := (150 + 7 * x1)) (by omega) hS s1 ?_
  show Wq 2 0 0 mM_isAhead 6 [iR 80, iI x1, iI x2] [vI (gI M 81 (150 + 7 * x1))] M _
  refine wq_aload_n (pc := 6) dM_isAhead_6 rfl rfl ?_
  refine wq_iload_n (pc := 7) dM_isAhead_7 rfl rfl ?_
  refine wq_iconst (pc := 8) dM_isAhead_8 rfl ?_
  refine wq_callV (d' := 1) (pc := 9) (as := [vI x2, vI 2]) (rest := [vI (gI M 81 (150 + 7 * x1))]) (lo' := [iR 80, iI x2, iI 2]) dM_isAhead_9 mO_M_event2 lV_M_123 sh_80 (by decide) cl_11 rfl rfl rfl rfl rfl rfl ?_
  refine sp_M_event2 (i := (150 + 7 * x2)) (by omega) hS s2 ?_
  show Wq 2 0 0 mM_isAhead 12 [iR 80, iI x1, iI x2] [vI (gI M 81 (150 + 7 * x2)), vI (gI M 81 (150 + 7 * x1))] M _
  refine wq_icmp_lt (pc := 12) (tgt := 35) dM_isAhead_12 (by decide) (fun c3 => ?_) (fun c3 => ?_)
  · have H := H.1 c3
    refine wq_iconst (pc := 35) dM_isAhead_35 rfl ?_
    refine wq_goto (pc := 36) (tgt := 40) dM_isAhead_36 (by decide) ?_
    refine wq_ireturn (pc := 40) dM_isAhead_40 (Or.inr rfl) ?_
    exact H
  · have H := H.2 c3
    obtain ⟨⟨s4, s5⟩, H⟩ := H
    refine wq_aload_n (pc := 15) dM_isAhead_15 rfl rfl ?_
    refine wq_iload_n (pc := 16) dM_isAhead_16 rfl rfl ?_
    refine wq_iconst (pc := 17) dM_isAhead_17 rfl ?_
    refine wq_callV (d' := 1) (pc := 18) (as := [vI x1, vI 2]) (rest := []) (lo' := [iR 80, iI x1, iI 2]) dM_isAhead_18 mO_M_event2 lV_M_123 sh_80 (by decide) cl_11 rfl rfl rfl rfl rfl rfl ?_
    refine sp_M_event2 (i := (150 + 7 * x1)) (by omega) hS s4 ?_
    show Wq 2 0 0 mM_isAhead 21 [iR 80, iI x1, iI x2] [vI (gI M 81 (150 + 7 * x1))] M _
    refine wq_aload_n (pc := 21) dM_isAhead_21 rfl rfl ?_
    refine wq_iload_n (pc := 22) dM_isAhead_22 rfl rfl ?_
    refine wq_iconst (pc := 23) dM_isAhead_23 rfl ?_
    refine wq_callV (d' := 1) (pc := 24) (as := [vI x2, vI 2]) (rest := [vI (gI M 81 (150 + 7 * x1))]) (lo' := [iR 80, iI x2, iI 2]) dM_isAhead_24 mO_M_event2 lV_M_123 sh_80 (by decide) cl_11 rfl rfl rfl rfl rfl rfl ?_
    refine sp_M_event2 (i := (150 + 7 * x2)) (by omega) hS s5 ?_
    show Wq 2 0 0 mM_isAhead 27 [iR 80, iI x1, iI x2] [vI (gI M 81 (150 + 7 * x2)), vI (gI M 81 (150 + 7 * x1))] M _
    refine wq_icmp_ne (pc := 27) (tgt := 39) dM_isAhead_27 (by decide) (fun c6 => ?_) (fun c6 => ?_)
    · have H := H.1 c6
      refine wq_iconst (pc := 39) dM_isAhead_39 rfl ?_
      refine wq_ireturn (pc := 40) dM_isAhead_40 (Or.inl rfl) ?_
      exact H
    · have H := H.2 c6
      refine wq_iload_n (pc := 30) dM_isAhead_30 rfl rfl ?_
      refine wq_iload_n (pc := 31) dM_isAhead_31 rfl rfl ?_
      refine wq_icmp_ge (pc := 32) (tgt := 39) dM_isAhead_32 (by decide) (fun c7 => ?_) (fun c7 => ?_)
      · have H := H.1 c7
        refine wq_iconst (pc := 39) dM_isAhead_39 rfl ?_
        refine wq_ireturn (pc := 40) dM_isAhead_40 (Or.inl rfl) ?_
        exact H
      · have H := H.2 c7
        refine wq_iconst (pc := 35) dM_isAhead_35 rfl ?_
        refine wq_goto (pc := 36) (tgt := 40) dM_isAhead_36 (by decide) ?_
        refine wq_ireturn (pc := 40) dM_isAhead_40 (Or.inr rfl) ?_
        exact H
set_option maxRecDepth 20000 in
theorem B_M_step_0 {x1 x2 : Int} {M : Mm} {Q : Mm → Option Mv → Prop} (H : Wq 6 0 0 mM_step 5 [iR 80, iI x1, iI x2, iI 0, iI 0] [] M Q) : Wq 6 0 0 mM_step 0 [iR 80, iI x1, iI x2, none, none] [] M Q := by
  refine wq_iconst (pc := 0) dM_step_0 rfl ?_
  refine wq_istore_n (pc := 1) (lo' := [iR 80, iI x1, iI x2, iI 0, none]) dM_step_1 rfl rfl rfl ?_
  refine wq_iconst (pc := 2) dM_step_2 rfl ?_
  refine wq_istore (pc := 3) (lo' := [iR 80, iI x1, iI x2, iI 0, iI 0]) dM_step_3 rfl rfl ?_
  exact H

set_option maxRecDepth 20000 in
theorem B_M_step_5 {x1 x2 x3 x4 : Int} {M : Mm} {Q : Mm → Option Mv → Prop} (hS : RefOK M) (H : ((gI M 81 4 ≤ x4 → Wq 5 0 0 mM_endBy 0 [iR 80, iI (bOr x3 (bShl 1 x2))] [] M (fun M' v => Wq 6 0 0 mM_step 61 [iR 80, iI x1, iI x2, iI x3, iI x4] (v.toList ++ []) M' Q)) ∧ (¬ gI M 81 4 ≤ x4 → ((0 ≤ x1 ∧ x1 < 2147483648 ∧ 0 ≤ x4 ∧ x4 < 32) ∧ ((hb x1 x4 = true → Wq 2 0 0 mM_isAhead 0 [iR 80, iI x4, iI x2] [] M (fun M' v => Wq 6 0 0 mM_step 33 [iR 80, iI x1, iI x2, iI x3, iI x4] (v.toList ++ [vI x3]) M' Q)) ∧ (¬ (hb x1 x4 = true) → ((-2147483648 ≤ x4 + 1 ∧ x4 + 1 < 2147483648) ∧ Wq 6 0 0 mM_step 5 [iR 80, iI x1, iI x2, iI (bOr x3 0), iI (x4 + 1)] [] M Q))))))) : Wq 6 0 0 mM_step 5 [iR 80, iI x1, iI x2, iI x3, iI x4] [] M Q := by
  refine wq_iload (pc := 5) dM_step_5 rfl ?_
  refine wq_aload_n (pc := 7) dM_step_7 rfl rfl ?_
  refine wq_getR (pc := 8) (z := 0) (b := 81) dM_step_8 fO_M_9 sh_80 rfl rfl (rf_80_0 hS) ?_
  refine wq_iconst (pc := 11) dM_step_11 rfl ?_
  refine wq_iald (pc := 12) dM_step_12 sh_81 (by decide) (by decide) ?_
  refine wq_icmp_ge (pc := 13) (tgt := 52) dM_step_13 (by decide) (fun c1 => ?_) (fun c1 => ?_)
  · have H := H.1 c1
    refine wq_aload_n (pc := 52) dM_step_52 rfl rfl ?_
    refine wq_iload_n (pc := 53) dM_step_53 rfl rfl ?_
    refine wq_iconst (pc := 54) dM_step_54 rfl ?_
    refine wq_iload_n (pc := 55) dM_step_55 rfl rfl ?_
    refine wq_ishl (pc := 56) dM_step_56 ?_
    refine wq_ior (pc := 57) dM_step_57 ?_
    refine wq_callV (d' := 5) (pc := 58) (as := [vI (bOr x3 (bShl 1 x2))]) (rest := []) (lo' := [iR 80, iI (bOr x3 (bShl 1 x2))]) dM_step_58 mO_M_endBy lV_M_162 sh_80 (by decide) cl_11 rfl rfl rfl rfl rfl rfl ?_
    exact H
  · have H := H.2 c1
    obtain ⟨s2, H⟩ := H
    refine wq_iload_n (pc := 16) dM_step_16 rfl rfl ?_
    refine wq_iload_n (pc := 17) dM_step_17 rfl rfl ?_
    refine wq_iload (pc := 18) dM_step_18 rfl ?_
    refine wq_callS (d' := 1) (pc := 20) (as := [vI x1, vI x4]) (rest := [vI x3]) (lo' := [iI x1, iI x4]) dM_step_20 mO_M_has lS_M_102 rfl rfl rfl rfl rfl rfl ?_
    refine sp_M_has s2 (fun c3 => ?_) (fun c3 => ?_)
    · have H := H.1 c3
      show Wq 6 0 0 mM_step 23 [iR 80, iI x1, iI x2, iI x3, iI x4] [vI 1, vI x3] M _
      refine wq_if_eq (pc := 23) (tgt := 43) dM_step_23 (by decide) (fun q => absurd q (by decide)) (fun _ => ?_)
      refine wq_aload_n (pc := 26) dM_step_26 rfl rfl ?_
      refine wq_iload (pc := 27) dM_step_27 rfl ?_
      refine wq_iload_n (pc := 29) dM_step_29 rfl rfl ?_
      refine wq_callV (d' := 2) (pc := 30) (as := [vI x4, vI x2]) (rest := [vI x3]) (lo' := [iR 80, iI x4, iI x2]) dM_step_30 mO_M_isAhead lV_M_173 sh_80 (by decide) cl_11 rfl rfl rfl rfl rfl rfl ?_
      exact H
    · have H := H.2 c3
      show Wq 6 0 0 mM_step 23 [iR 80, iI x1, iI x2, iI x3, iI x4] [vI 0, vI x3] M _
      obtain ⟨s4, H⟩ := H
      refine wq_if_eq (pc := 23) (tgt := 43) dM_step_23 (by decide) (fun _ => ?_) (fun q => absurd (by decide) q)
      refine wq_iconst (pc := 43) dM_step_43 rfl ?_
      refine wq_ior (pc := 44) dM_step_44 ?_
      refine wq_istore_n (pc := 45) (lo' := [iR 80, iI x1, iI x2, iI (bOr x3 0), iI x4]) dM_step_45 rfl rfl rfl ?_
      refine wq_iinc (pc := 46) (lo' := [iR 80, iI x1, iI x2, iI (bOr x3 0), iI (x4 + 1)]) dM_step_46 rfl rfl (by rw [show wr (x4 + 1) = x4 + 1 from (Eq.trans (wr_eq (by omega) (by omega)) (by omega))]; rfl) ?_
      refine wq_goto (pc := 49) (tgt := 5) dM_step_49 (by decide) ?_
      exact H

set_option maxRecDepth 20000 in
theorem B_M_step_33 {x1 x2 x3 x4 y0 y1 : Int} {M : Mm} {Q : Mm → Option Mv → Prop} (H : ((y0 = 0 → ((-2147483648 ≤ x4 + 1 ∧ x4 + 1 < 2147483648) ∧ Wq 6 0 0 mM_step 5 [iR 80, iI x1, iI x2, iI (bOr y1 0), iI (x4 + 1)] [] M Q)) ∧ (¬ y0 = 0 → ((-2147483648 ≤ x4 + 1 ∧ x4 + 1 < 2147483648) ∧ Wq 6 0 0 mM_step 5 [iR 80, iI x1, iI x2, iI (bOr y1 (bShl 1 x4)), iI (x4 + 1)] [] M Q)))) : Wq 6 0 0 mM_step 33 [iR 80, iI x1, iI x2, iI x3, iI x4] [vI y0, vI y1] M Q := by
  refine wq_if_eq (pc := 33) (tgt := 43) dM_step_33 (by decide) (fun c1 => ?_) (fun c1 => ?_)
  · have H := H.1 c1
    obtain ⟨s2, H⟩ := H
    refine wq_iconst (pc := 43) dM_step_43 rfl ?_
    refine wq_ior (pc := 44) dM_step_44 ?_
    refine wq_istore_n (pc := 45) (lo' := [iR 80, iI x1, iI x2, iI (bOr y1 0), iI x4]) dM_step_45 rfl rfl rfl ?_
    refine wq_iinc (pc := 46) (lo' := [iR 80, iI x1, iI x2, iI (bOr y1 0), iI (x4 + 1)]) dM_step_46 rfl rfl (by rw [show wr (x4 + 1) = x4 + 1 from (Eq.trans (wr_eq (by omega) (by omega)) (by omega))]; rfl) ?_
    refine wq_goto (pc := 49) (tgt := 5) dM_step_49 (by decide) ?_
    exact H
  · have H := H.2 c1
    obtain ⟨s3, H⟩ := H
    refine wq_iconst (pc := 36) dM_step_36 rfl ?_
    refine wq_iload (pc := 37) dM_step_37 rfl ?_
    refine wq_ishl (pc := 39) dM_step_39 ?_
    refine wq_goto (pc := 40) (tgt := 44) dM_step_40 (by decide) ?_
    refine wq_ior (pc := 44) dM_step_44 ?_
    refine wq_istore_n (pc := 45) (lo' := [iR 80, iI x1, iI x2, iI (bOr y1 (bShl 1 x4)), iI x4]) dM_step_45 rfl rfl rfl ?_
    refine wq_iinc (pc := 46) (lo' := [iR 80, iI x1, iI x2, iI (bOr y1 (bShl 1 x4)), iI (x4 + 1)]) dM_step_46 rfl rfl (by rw [show wr (x4 + 1) = x4 + 1 from (Eq.trans (wr_eq (by omega) (by omega)) (by omega))]; rfl) ?_
    refine wq_goto (pc := 49) (tgt := 5) dM_step_49 (by decide) ?_
    exact H

set_option maxRecDepth 20000 in
theorem B_M_step_61 {x1 x2 x3 x4 y0 : Int} {M : Mm} {Q : Mm → Option Mv → Prop} (H : Wq 5 0 0 mM_endBy 0 [iR 80, iI x3] [] M (fun M' v => Wq 6 0 0 mM_step 66 [iR 80, iI x1, iI x2, iI x3, iI x4] (v.toList ++ [vI y0]) M' Q)) : Wq 6 0 0 mM_step 61 [iR 80, iI x1, iI x2, iI x3, iI x4] [vI y0] M Q := by
  refine wq_aload_n (pc := 61) dM_step_61 rfl rfl ?_
  refine wq_iload_n (pc := 62) dM_step_62 rfl rfl ?_
  refine wq_callV (d' := 5) (pc := 63) (as := [vI x3]) (rest := [vI y0]) (lo' := [iR 80, iI x3]) dM_step_63 mO_M_endBy lV_M_162 sh_80 (by decide) cl_11 rfl rfl rfl rfl rfl rfl ?_
  exact H

set_option maxRecDepth 20000 in
theorem B_M_step_66 {x1 x2 x3 x4 y0 y1 : Int} {M : Mm} {Q : Mm → Option Mv → Prop} (H : ((-2147483648 ≤ y1 - y0 ∧ y1 - y0 < 2147483648) ∧ Q M (some (vI (y1 - y0))))) : Wq 6 0 0 mM_step 66 [iR 80, iI x1, iI x2, iI x3, iI x4] [vI y0, vI y1] M Q := by
  obtain ⟨s1, H⟩ := H
  refine wq_isub (pc := 66) dM_step_66 ?_
  refine wq_re (x := (wr (y1 - y0))) (y := (y1 - y0)) (Eq.trans (wr_eq (by omega) (by omega)) (by omega)) ?_
  refine wq_ireturn (pc := 67) dM_step_67 trivial ?_
  exact H
set_option maxRecDepth 20000 in
theorem B_M_one_0 {x1 x2 : Int} {M : Mm} {Q : Mm → Option Mv → Prop} (hS : RefOK M) (H : (0 ≤ gI M 81 4 ∧ ((0 ≤ x1 ∧ x1 < gI M 81 4 → ((0 ≤ x2 ∧ x2 ≤ 900 → Wq 2 0 0 mM_knownOn 0 [iR 80, iI x2, none, none, none] [] M (fun M' v => Wq 7 0 0 mM_one 28 [iR 80, iI x1, iI x2, none] (v.toList ++ []) M' Q)) ∧ (¬ (0 ≤ x2 ∧ x2 ≤ 900) → Q (sI M 83 1 (wr (gI M 83 1 + 1))) (some (vI (-1000001)))))) ∧ (¬ (0 ≤ x1 ∧ x1 < gI M 81 4) → Q (sI M 83 1 (wr (gI M 83 1 + 1))) (some (vI (-1000001))))))) : Wq 7 0 0 mM_one 0 [iR 80, iI x1, iI x2, none] [] M Q := by
  obtain ⟨s1, H⟩ := H
  refine wq_aload_n (pc := 0) dM_one_0 rfl rfl ?_
  refine wq_iload_n (pc := 1) dM_one_1 rfl rfl ?_
  refine wq_iconst (pc := 2) dM_one_2 rfl ?_
  refine wq_callV (d' := 2) (pc := 3) (as := [vI x1, vI 4]) (rest := []) (lo' := [iR 80, iI x1, iI 4]) dM_one_3 mO_M_is lV_M_84 sh_80 (by decide) cl_11 rfl rfl rfl rfl rfl rfl ?_
  refine sp_M_is (c := 4) (by decide) hS s1 (fun c2 => ?_) (fun c2 => ?_)
  · have H := H.1 c2
    show Wq 7 0 0 mM_one 6 [iR 80, iI x1, iI x2, none] [vI 1] M _
    refine wq_if_eq (pc := 6) (tgt := 16) dM_one_6 (by decide) (fun q => absurd q (by decide)) (fun _ => ?_)
    refine wq_iload_n (pc := 9) dM_one_9 rfl rfl ?_
    refine wq_callS (d' := 2) (pc := 10) (as := [vI x2]) (rest := []) (lo' := [iI x2]) dM_one_10 mO_M_isDay lS_M_128 rfl rfl rfl rfl rfl rfl ?_
    refine sp_M_isDay (fun c3 => ?_) (fun c3 => ?_)
    · have H := H.1 c3
      show Wq 7 0 0 mM_one 13 [iR 80, iI x1, iI x2, none] [vI 1] M _
      refine wq_if_ne (pc := 13) (tgt := 23) dM_one_13 (by decide) (fun _ => ?_) (fun q => absurd q (by decide))
      refine wq_aload_n (pc := 23) dM_one_23 rfl rfl ?_
      refine wq_iload_n (pc := 24) dM_one_24 rfl rfl ?_
      refine wq_callV (d' := 2) (pc := 25) (as := [vI x2]) (rest := []) (lo' := [iR 80, iI x2, none, none, none]) dM_one_25 mO_M_knownOn lV_M_132 sh_80 (by decide) cl_11 rfl rfl rfl rfl rfl rfl ?_
      exact H
    · have H := H.2 c3
      show Wq 7 0 0 mM_one 13 [iR 80, iI x1, iI x2, none] [vI 0] M _
      refine wq_if_ne (pc := 13) (tgt := 23) dM_one_13 (by decide) (fun q => absurd q (by decide)) (fun _ => ?_)
      refine wq_aload_n (pc := 16) dM_one_16 rfl rfl ?_
      refine wq_ldc (pc := 17) (z := (-1000001)) dM_one_17 kO_M_78 (by decide) ?_
      refine wq_callV (d' := 1) (pc := 19) (as := [vI (-1000001)]) (rest := []) (lo' := [iR 80, iI ((-1000001))]) dM_one_19 mO_M_finding lV_M_79 sh_80 (by decide) cl_11 rfl rfl rfl rfl rfl rfl ?_
      refine sp_M_finding (k := 1) (by decide) (by decide) (by decide) hS ?_
      show Wq 7 0 0 mM_one 22 [iR 80, iI x1, iI x2, none] [vI (-1000001)] (sI M 83 1 (wr (gI M 83 1 + 1))) _
      refine wq_ireturn (pc := 22) dM_one_22 trivial ?_
      exact H
  · have H := H.2 c2
    show Wq 7 0 0 mM_one 6 [iR 80, iI x1, iI x2, none] [vI 0] M _
    refine wq_if_eq (pc := 6) (tgt := 16) dM_one_6 (by decide) (fun _ => ?_) (fun q => absurd (by decide) q)
    refine wq_aload_n (pc := 16) dM_one_16 rfl rfl ?_
    refine wq_ldc (pc := 17) (z := (-1000001)) dM_one_17 kO_M_78 (by decide) ?_
    refine wq_callV (d' := 1) (pc := 19) (as := [vI (-1000001)]) (rest := []) (lo' := [iR 80, iI ((-1000001))]) dM_one_19 mO_M_finding lV_M_79 sh_80 (by decide) cl_11 rfl rfl rfl rfl rfl rfl ?_
    refine sp_M_finding (k := 1) (by decide) (by decide) (by decide) hS ?_
    show Wq 7 0 0 mM_one 22 [iR 80, iI x1, iI x2, none] [vI (-1000001)] (sI M 83 1 (wr (gI M 83 1 + 1))) _
    refine wq_ireturn (pc := 22) dM_one_22 trivial ?_
    exact H

set_option maxRecDepth 20000 in
theorem B_M_one_28 {x1 x2 y0 : Int} {M : Mm} {Q : Mm → Option Mv → Prop} (hS : RefOK M) (H : ((0 ≤ y0 ∧ y0 < 2147483648 ∧ 0 ≤ x1 ∧ x1 < 32) ∧ ((hb y0 x1 = true → Wq 6 0 0 mM_step 0 [iR 80, iI y0, iI x1, none, none] [] M (fun M' v => Wq 7 0 0 mM_one 43 [iR 80, iI x1, iI x2, iI y0] (v.toList ++ []) M' Q)) ∧ (¬ (hb y0 x1 = true) → Q (sI M 83 2 (wr (gI M 83 2 + 1))) (some (vI (-1000002))))))) : Wq 7 0 0 mM_one 28 [iR 80, iI x1, iI x2, none] [vI y0] M Q := by
  obtain ⟨s1, H⟩ := H
  refine wq_istore_n (pc := 28) (lo' := [iR 80, iI x1, iI x2, iI y0]) dM_one_28 rfl rfl rfl ?_
  refine wq_iload_n (pc := 29) dM_one_29 rfl rfl ?_
  refine wq_iload_n (pc := 30) dM_one_30 rfl rfl ?_
  refine wq_callS (d' := 1) (pc := 31) (as := [vI y0, vI x1]) (rest := []) (lo' := [iI y0, iI x1]) dM_one_31 mO_M_has lS_M_102 rfl rfl rfl rfl rfl rfl ?_
  refine sp_M_has s1 (fun c2 => ?_) (fun c2 => ?_)
  · have H := H.1 c2
    show Wq 7 0 0 mM_one 34 [iR 80, iI x1, iI x2, iI y0] [vI 1] M _
    refine wq_if_eq (pc := 34) (tgt := 46) dM_one_34 (by decide) (fun q => absurd q (by decide)) (fun _ => ?_)
    refine wq_aload_n (pc := 37) dM_one_37 rfl rfl ?_
    refine wq_iload_n (pc := 38) dM_one_38 rfl rfl ?_
    refine wq_iload_n (pc := 39) dM_one_39 rfl rfl ?_
    refine wq_callV (d' := 6) (pc := 40) (as := [vI y0, vI x1]) (rest := []) (lo' := [iR 80, iI y0, iI x1, none, none]) dM_one_40 mO_M_step lV_M_176 sh_80 (by decide) cl_11 rfl rfl rfl rfl rfl rfl ?_
    exact H
  · have H := H.2 c2
    show Wq 7 0 0 mM_one 34 [iR 80, iI x1, iI x2, iI y0] [vI 0] M _
    refine wq_if_eq (pc := 34) (tgt := 46) dM_one_34 (by decide) (fun _ => ?_) (fun q => absurd (by decide) q)
    refine wq_aload_n (pc := 46) dM_one_46 rfl rfl ?_
    refine wq_ldc (pc := 47) (z := (-1000002)) dM_one_47 kO_M_114 (by decide) ?_
    refine wq_callV (d' := 1) (pc := 49) (as := [vI (-1000002)]) (rest := []) (lo' := [iR 80, iI ((-1000002))]) dM_one_49 mO_M_finding lV_M_79 sh_80 (by decide) cl_11 rfl rfl rfl rfl rfl rfl ?_
    refine sp_M_finding (k := 2) (by decide) (by decide) (by decide) hS ?_
    show Wq 7 0 0 mM_one 52 [iR 80, iI x1, iI x2, iI y0] [vI (-1000002)] (sI M 83 2 (wr (gI M 83 2 + 1))) _
    refine wq_ireturn (pc := 52) dM_one_52 trivial ?_
    exact H

set_option maxRecDepth 20000 in
theorem B_M_one_43 {x1 x2 x3 y0 : Int} {M : Mm} {Q : Mm → Option Mv → Prop} (H : Q M (some (vI y0))) : Wq 7 0 0 mM_one 43 [iR 80, iI x1, iI x2, iI x3] [vI y0] M Q := by
  refine wq_goto (pc := 43) (tgt := 52) dM_one_43 (by decide) ?_
  refine wq_ireturn (pc := 52) dM_one_52 trivial ?_
  exact H
set_option maxRecDepth 20000 in
theorem B_M_without_0 {x1 x2 : Int} {M : Mm} {Q : Mm → Option Mv → Prop} (hS : RefOK M) (H : (0 ≤ gI M 81 4 ∧ ((0 ≤ x1 ∧ x1 < gI M 81 4 → ((0 ≤ x2 ∧ x2 ≤ 900 → Wq 2 0 0 mM_knownOn 0 [iR 80, iI x2, none, none, none] [] M (fun M' v => Wq 6 0 0 mM_without 28 [iR 80, iI x1, iI x2, none] (v.toList ++ []) M' Q)) ∧ (¬ (0 ≤ x2 ∧ x2 ≤ 900) → Q (sI M 83 1 (wr (gI M 83 1 + 1))) (some (vI (-1000001)))))) ∧ (¬ (0 ≤ x1 ∧ x1 < gI M 81 4) → Q (sI M 83 1 (wr (gI M 83 1 + 1))) (some (vI (-1000001))))))) : Wq 6 0 0 mM_without 0 [iR 80, iI x1, iI x2, none] [] M Q := by
  obtain ⟨s1, H⟩ := H
  refine wq_aload_n (pc := 0) dM_without_0 rfl rfl ?_
  refine wq_iload_n (pc := 1) dM_without_1 rfl rfl ?_
  refine wq_iconst (pc := 2) dM_without_2 rfl ?_
  refine wq_callV (d' := 2) (pc := 3) (as := [vI x1, vI 4]) (rest := []) (lo' := [iR 80, iI x1, iI 4]) dM_without_3 mO_M_is lV_M_84 sh_80 (by decide) cl_11 rfl rfl rfl rfl rfl rfl ?_
  refine sp_M_is (c := 4) (by decide) hS s1 (fun c2 => ?_) (fun c2 => ?_)
  · have H := H.1 c2
    show Wq 6 0 0 mM_without 6 [iR 80, iI x1, iI x2, none] [vI 1] M _
    refine wq_if_eq (pc := 6) (tgt := 16) dM_without_6 (by decide) (fun q => absurd q (by decide)) (fun _ => ?_)
    refine wq_iload_n (pc := 9) dM_without_9 rfl rfl ?_
    refine wq_callS (d' := 2) (pc := 10) (as := [vI x2]) (rest := []) (lo' := [iI x2]) dM_without_10 mO_M_isDay lS_M_128 rfl rfl rfl rfl rfl rfl ?_
    refine sp_M_isDay (fun c3 => ?_) (fun c3 => ?_)
    · have H := H.1 c3
      show Wq 6 0 0 mM_without 13 [iR 80, iI x1, iI x2, none] [vI 1] M _
      refine wq_if_ne (pc := 13) (tgt := 23) dM_without_13 (by decide) (fun _ => ?_) (fun q => absurd q (by decide))
      refine wq_aload_n (pc := 23) dM_without_23 rfl rfl ?_
      refine wq_iload_n (pc := 24) dM_without_24 rfl rfl ?_
      refine wq_callV (d' := 2) (pc := 25) (as := [vI x2]) (rest := []) (lo' := [iR 80, iI x2, none, none, none]) dM_without_25 mO_M_knownOn lV_M_132 sh_80 (by decide) cl_11 rfl rfl rfl rfl rfl rfl ?_
      exact H
    · have H := H.2 c3
      show Wq 6 0 0 mM_without 13 [iR 80, iI x1, iI x2, none] [vI 0] M _
      refine wq_if_ne (pc := 13) (tgt := 23) dM_without_13 (by decide) (fun q => absurd q (by decide)) (fun _ => ?_)
      refine wq_aload_n (pc := 16) dM_without_16 rfl rfl ?_
      refine wq_ldc (pc := 17) (z := (-1000001)) dM_without_17 kO_M_78 (by decide) ?_
      refine wq_callV (d' := 1) (pc := 19) (as := [vI (-1000001)]) (rest := []) (lo' := [iR 80, iI ((-1000001))]) dM_without_19 mO_M_finding lV_M_79 sh_80 (by decide) cl_11 rfl rfl rfl rfl rfl rfl ?_
      refine sp_M_finding (k := 1) (by decide) (by decide) (by decide) hS ?_
      show Wq 6 0 0 mM_without 22 [iR 80, iI x1, iI x2, none] [vI (-1000001)] (sI M 83 1 (wr (gI M 83 1 + 1))) _
      refine wq_ireturn (pc := 22) dM_without_22 trivial ?_
      exact H
  · have H := H.2 c2
    show Wq 6 0 0 mM_without 6 [iR 80, iI x1, iI x2, none] [vI 0] M _
    refine wq_if_eq (pc := 6) (tgt := 16) dM_without_6 (by decide) (fun _ => ?_) (fun q => absurd (by decide) q)
    refine wq_aload_n (pc := 16) dM_without_16 rfl rfl ?_
    refine wq_ldc (pc := 17) (z := (-1000001)) dM_without_17 kO_M_78 (by decide) ?_
    refine wq_callV (d' := 1) (pc := 19) (as := [vI (-1000001)]) (rest := []) (lo' := [iR 80, iI ((-1000001))]) dM_without_19 mO_M_finding lV_M_79 sh_80 (by decide) cl_11 rfl rfl rfl rfl rfl rfl ?_
    refine sp_M_finding (k := 1) (by decide) (by decide) (by decide) hS ?_
    show Wq 6 0 0 mM_without 22 [iR 80, iI x1, iI x2, none] [vI (-1000001)] (sI M 83 1 (wr (gI M 83 1 + 1))) _
    refine wq_ireturn (pc := 22) dM_without_22 trivial ?_
    exact H

set_option maxRecDepth 20000 in
theorem B_M_without_28 {x1 x2 y0 : Int} {M : Mm} {Q : Mm → Option Mv → Prop} (hS : RefOK M) (H : ((0 ≤ y0 ∧ y0 < 2147483648 ∧ 0 ≤ x1 ∧ x1 < 32) ∧ ((hb y0 x1 = true → Wq 5 0 0 mM_endBy 0 [iR 80, iI y0] [] M (fun M' v => Wq 6 0 0 mM_without 42 [iR 80, iI x1, iI x2, iI y0] (v.toList ++ []) M' Q)) ∧ (¬ (hb y0 x1 = true) → Q (sI M 83 2 (wr (gI M 83 2 + 1))) (some (vI (-1000002))))))) : Wq 6 0 0 mM_without 28 [iR 80, iI x1, iI x2, none] [vI y0] M Q := by
  obtain ⟨s1, H⟩ := H
  refine wq_istore_n (pc := 28) (lo' := [iR 80, iI x1, iI x2, iI y0]) dM_without_28 rfl rfl rfl ?_
  refine wq_iload_n (pc := 29) dM_without_29 rfl rfl ?_
  refine wq_iload_n (pc := 30) dM_without_30 rfl rfl ?_
  refine wq_callS (d' := 1) (pc := 31) (as := [vI y0, vI x1]) (rest := []) (lo' := [iI y0, iI x1]) dM_without_31 mO_M_has lS_M_102 rfl rfl rfl rfl rfl rfl ?_
  refine sp_M_has s1 (fun c2 => ?_) (fun c2 => ?_)
  · have H := H.1 c2
    show Wq 6 0 0 mM_without 34 [iR 80, iI x1, iI x2, iI y0] [vI 1] M _
    refine wq_if_eq (pc := 34) (tgt := 55) dM_without_34 (by decide) (fun q => absurd q (by decide)) (fun _ => ?_)
    refine wq_aload_n (pc := 37) dM_without_37 rfl rfl ?_
    refine wq_iload_n (pc := 38) dM_without_38 rfl rfl ?_
    refine wq_callV (d' := 5) (pc := 39) (as := [vI y0]) (rest := []) (lo' := [iR 80, iI y0]) dM_without_39 mO_M_endBy lV_M_162 sh_80 (by decide) cl_11 rfl rfl rfl rfl rfl rfl ?_
    exact H
  · have H := H.2 c2
    show Wq 6 0 0 mM_without 34 [iR 80, iI x1, iI x2, iI y0] [vI 0] M _
    refine wq_if_eq (pc := 34) (tgt := 55) dM_without_34 (by decide) (fun _ => ?_) (fun q => absurd (by decide) q)
    refine wq_aload_n (pc := 55) dM_without_55 rfl rfl ?_
    refine wq_ldc (pc := 56) (z := (-1000002)) dM_without_56 kO_M_114 (by decide) ?_
    refine wq_callV (d' := 1) (pc := 58) (as := [vI (-1000002)]) (rest := []) (lo' := [iR 80, iI ((-1000002))]) dM_without_58 mO_M_finding lV_M_79 sh_80 (by decide) cl_11 rfl rfl rfl rfl rfl rfl ?_
    refine sp_M_finding (k := 2) (by decide) (by decide) (by decide) hS ?_
    show Wq 6 0 0 mM_without 61 [iR 80, iI x1, iI x2, iI y0] [vI (-1000002)] (sI M 83 2 (wr (gI M 83 2 + 1))) _
    refine wq_ireturn (pc := 61) dM_without_61 trivial ?_
    exact H

set_option maxRecDepth 20000 in
theorem B_M_without_42 {x1 x2 x3 y0 : Int} {M : Mm} {Q : Mm → Option Mv → Prop} (H : Wq 5 0 0 mM_endBy 0 [iR 80, iI (bXor x3 (bShl 1 x1))] [] M (fun M' v => Wq 6 0 0 mM_without 51 [iR 80, iI x1, iI x2, iI x3] (v.toList ++ [vI y0]) M' Q)) : Wq 6 0 0 mM_without 42 [iR 80, iI x1, iI x2, iI x3] [vI y0] M Q := by
  refine wq_aload_n (pc := 42) dM_without_42 rfl rfl ?_
  refine wq_iload_n (pc := 43) dM_without_43 rfl rfl ?_
  refine wq_iconst (pc := 44) dM_without_44 rfl ?_
  refine wq_iload_n (pc := 45) dM_without_45 rfl rfl ?_
  refine wq_ishl (pc := 46) dM_without_46 ?_
  refine wq_ixor (pc := 47) dM_without_47 ?_
  refine wq_callV (d' := 5) (pc := 48) (as := [vI (bXor x3 (bShl 1 x1))]) (rest := [vI y0]) (lo' := [iR 80, iI (bXor x3 (bShl 1 x1))]) dM_without_48 mO_M_endBy lV_M_162 sh_80 (by decide) cl_11 rfl rfl rfl rfl rfl rfl ?_
  exact H

set_option maxRecDepth 20000 in
theorem B_M_without_51 {x1 x2 x3 y0 y1 : Int} {M : Mm} {Q : Mm → Option Mv → Prop} (H : ((-2147483648 ≤ y1 - y0 ∧ y1 - y0 < 2147483648) ∧ Q M (some (vI (y1 - y0))))) : Wq 6 0 0 mM_without 51 [iR 80, iI x1, iI x2, iI x3] [vI y0, vI y1] M Q := by
  obtain ⟨s1, H⟩ := H
  refine wq_isub (pc := 51) dM_without_51 ?_
  refine wq_goto (pc := 52) (tgt := 61) dM_without_52 (by decide) ?_
  refine wq_re (x := (wr (y1 - y0))) (y := (y1 - y0)) (Eq.trans (wr_eq (by omega) (by omega)) (by omega)) ?_
  refine wq_ireturn (pc := 61) dM_without_61 trivial ?_
  exact H
set_option maxRecDepth 20000 in
theorem B_M_butFor_0 {x1 x2 : Int} {M : Mm} {Q : Mm → Option Mv → Prop} (hS : RefOK M) (H : ((0 ≤ x1 ∧ x1 ≤ 3 → ((0 ≤ x2 ∧ x2 ≤ 900 → Wq 2 0 0 mM_knownOn 0 [iR 80, iI x2, none, none, none] [] M (fun M' v => Wq 6 0 0 mM_butFor 31 [iR 80, iI x1, iI x2, none, none, none] (v.toList ++ []) M' Q)) ∧ (¬ (0 ≤ x2 ∧ x2 ≤ 900) → Q (sI M 83 1 (wr (gI M 83 1 + 1))) (some (vI (-1000001)))))) ∧ (¬ (0 ≤ x1 ∧ x1 ≤ 3) → Q (sI M 83 1 (wr (gI M 83 1 + 1))) (some (vI (-1000001)))))) : Wq 6 0 0 mM_butFor 0 [iR 80, iI x1, iI x2, none, none, none] [] M Q := by
  refine wq_iload_n (pc := 0) dM_butFor_0 rfl rfl ?_
  refine wq_i2l (pc := 1) dM_butFor_1 ?_
  refine wq_lconst (pc := 2) (x := 0) dM_butFor_2 rfl rfl ?_
  refine wq_ldc2 (pc := 3) (z := 3) dM_butFor_3 kO_M_72 (by decide) ?_
  refine wq_callS (d' := 1) (pc := 6) (as := [vL x1, vL 0, vL 3]) (rest := []) (lo' := [iL x1, none, iL 0, none, iL 3, none]) dM_butFor_6 mO_M_within lS_M_68 rfl rfl rfl rfl rfl rfl ?_
  refine sp_M_within (fun c1 => ?_) (fun c1 => ?_)
  · have H := H.1 c1
    show Wq 6 0 0 mM_butFor 9 [iR 80, iI x1, iI x2, none, none, none] [vI 1] M _
    refine wq_if_eq (pc := 9) (tgt := 19) dM_butFor_9 (by decide) (fun q => absurd q (by decide)) (fun _ => ?_)
    refine wq_iload_n (pc := 12) dM_butFor_12 rfl rfl ?_
    refine wq_callS (d' := 2) (pc := 13) (as := [vI x2]) (rest := []) (lo' := [iI x2]) dM_butFor_13 mO_M_isDay lS_M_128 rfl rfl rfl rfl rfl rfl ?_
    refine sp_M_isDay (fun c2 => ?_) (fun c2 => ?_)
    · have H := H.1 c2
      show Wq 6 0 0 mM_butFor 16 [iR 80, iI x1, iI x2, none, none, none] [vI 1] M _
      refine wq_if_ne (pc := 16) (tgt := 26) dM_butFor_16 (by decide) (fun _ => ?_) (fun q => absurd q (by decide))
      refine wq_aload_n (pc := 26) dM_butFor_26 rfl rfl ?_
      refine wq_iload_n (pc := 27) dM_butFor_27 rfl rfl ?_
      refine wq_callV (d' := 2) (pc := 28) (as := [vI x2]) (rest := []) (lo' := [iR 80, iI x2, none, none, none]) dM_butFor_28 mO_M_knownOn lV_M_132 sh_80 (by decide) cl_11 rfl rfl rfl rfl rfl rfl ?_
      exact H
    · have H := H.2 c2
      show Wq 6 0 0 mM_butFor 16 [iR 80, iI x1, iI x2, none, none, none] [vI 0] M _
      refine wq_if_ne (pc := 16) (tgt := 26) dM_butFor_16 (by decide) (fun q => absurd q (by decide)) (fun _ => ?_)
      refine wq_aload_n (pc := 19) dM_butFor_19 rfl rfl ?_
      refine wq_ldc (pc := 20) (z := (-1000001)) dM_butFor_20 kO_M_78 (by decide) ?_
      refine wq_callV (d' := 1) (pc := 22) (as := [vI (-1000001)]) (rest := []) (lo' := [iR 80, iI ((-1000001))]) dM_butFor_22 mO_M_finding lV_M_79 sh_80 (by decide) cl_11 rfl rfl rfl rfl rfl rfl ?_
      refine sp_M_finding (k := 1) (by decide) (by decide) (by decide) hS ?_
      show Wq 6 0 0 mM_butFor 25 [iR 80, iI x1, iI x2, none, none, none] [vI (-1000001)] (sI M 83 1 (wr (gI M 83 1 + 1))) _
      refine wq_ireturn (pc := 25) dM_butFor_25 trivial ?_
      exact H
  · have H := H.2 c1
    show Wq 6 0 0 mM_butFor 9 [iR 80, iI x1, iI x2, none, none, none] [vI 0] M _
    refine wq_if_eq (pc := 9) (tgt := 19) dM_butFor_9 (by decide) (fun _ => ?_) (fun q => absurd (by decide) q)
    refine wq_aload_n (pc := 19) dM_butFor_19 rfl rfl ?_
    refine wq_ldc (pc := 20) (z := (-1000001)) dM_butFor_20 kO_M_78 (by decide) ?_
    refine wq_callV (d' := 1) (pc := 22) (as := [vI (-1000001)]) (rest := []) (lo' := [iR 80, iI ((-1000001))]) dM_butFor_22 mO_M_finding lV_M_79 sh_80 (by decide) cl_11 rfl rfl rfl rfl rfl rfl ?_
    refine sp_M_finding (k := 1) (by decide) (by decide) (by decide) hS ?_
    show Wq 6 0 0 mM_butFor 25 [iR 80, iI x1, iI x2, none, none, none] [vI (-1000001)] (sI M 83 1 (wr (gI M 83 1 + 1))) _
    refine wq_ireturn (pc := 25) dM_butFor_25 trivial ?_
    exact H

set_option maxRecDepth 20000 in
theorem B_M_butFor_31 {x1 x2 y0 : Int} {M : Mm} {Q : Mm → Option Mv → Prop} (H : Wq 6 0 0 mM_butFor 38 [iR 80, iI x1, iI x2, iI y0, iI 0, iI 0] [] M Q) : Wq 6 0 0 mM_butFor 31 [iR 80, iI x1, iI x2, none, none, none] [vI y0] M Q := by
  refine wq_istore_n (pc := 31) (lo' := [iR 80, iI x1, iI x2, iI y0, none, none]) dM_butFor_31 rfl rfl rfl ?_
  refine wq_iconst (pc := 32) dM_butFor_32 rfl ?_
  refine wq_istore (pc := 33) (lo' := [iR 80, iI x1, iI x2, iI y0, iI 0, none]) dM_butFor_33 rfl rfl ?_
  refine wq_iconst (pc := 35) dM_butFor_35 rfl ?_
  refine wq_istore (pc := 36) (lo' := [iR 80, iI x1, iI x2, iI y0, iI 0, iI 0]) dM_butFor_36 rfl rfl ?_
  exact H

set_option maxRecDepth 20000 in
theorem B_M_butFor_38 {x1 x2 x3 x4 x5 : Int} {M : Mm} {Q : Mm → Option Mv → Prop} (hS : RefOK M) (H : ((gI M 81 4 ≤ x5 → Wq 5 0 0 mM_endBy 0 [iR 80, iI x3] [] M (fun M' v => Wq 6 0 0 mM_butFor 93 [iR 80, iI x1, iI x2, iI x3, iI x4, iI x5] (v.toList ++ []) M' Q)) ∧ (¬ gI M 81 4 ≤ x5 → ((0 ≤ x3 ∧ x3 < 2147483648 ∧ 0 ≤ x5 ∧ x5 < 32) ∧ ((hb x3 x5 = true → ((0 ≤ 149 + 7 * x5 ∧ 149 + 7 * x5 < 1993) ∧ ((gI M 81 (149 + 7 * x5) = x1 → ((-2147483648 ≤ x5 + 1 ∧ x5 + 1 < 2147483648) ∧ Wq 6 0 0 mM_butFor 38 [iR 80, iI x1, iI x2, iI x3, iI (bOr x4 0), iI (x5 + 1)] [] M Q)) ∧ (¬ gI M 81 (149 + 7 * x5) = x1 → ((-2147483648 ≤ x5 + 1 ∧ x5 + 1 < 2147483648) ∧ Wq 6 0 0 mM_butFor 38 [iR 80, iI x1, iI x2, iI x3, iI (bOr x4 (bShl 1 x5)), iI (x5 + 1)] [] M Q))))) ∧ (¬ (hb x3 x5 = true) → ((-2147483648 ≤ x5 + 1 ∧ x5 + 1 < 2147483648) ∧ Wq 6 0 0 mM_butFor 38 [iR 80, iI x1, iI x2, iI x3, iI (bOr x4 0), iI (x5 + 1)] [] M Q))))))) : Wq 6 0 0 mM_butFor 38 [iR 80, iI x1, iI x2, iI x3, iI x4, iI x5] [] M Q := by
  refine wq_iload (pc := 38) dM_butFor_38 rfl ?_
  refine wq_aload_n (pc := 40) dM_butFor_40 rfl rfl ?_
  refine wq_getR (pc := 41) (z := 0) (b := 81) dM_butFor_41 fO_M_9 sh_80 rfl rfl (rf_80_0 hS) ?_
  refine wq_iconst (pc := 44) dM_butFor_44 rfl ?_
  refine wq_iald (pc := 45) dM_butFor_45 sh_81 (by decide) (by decide) ?_
  refine wq_icmp_ge (pc := 46) (tgt := 88) dM_butFor_46 (by decide) (fun c1 => ?_) (fun c1 => ?_)
  · have H := H.1 c1
    refine wq_aload_n (pc := 88) dM_butFor_88 rfl rfl ?_
    refine wq_iload_n (pc := 89) dM_butFor_89 rfl rfl ?_
    refine wq_callV (d' := 5) (pc := 90) (as := [vI x3]) (rest := []) (lo' := [iR 80, iI x3]) dM_butFor_90 mO_M_endBy lV_M_162 sh_80 (by decide) cl_11 rfl rfl rfl rfl rfl rfl ?_
    exact H
  · have H := H.2 c1
    obtain ⟨s2, H⟩ := H
    refine wq_iload (pc := 49) dM_butFor_49 rfl ?_
    refine wq_iload_n (pc := 51) dM_butFor_51 rfl rfl ?_
    refine wq_iload (pc := 52) dM_butFor_52 rfl ?_
    refine wq_callS (d' := 1) (pc := 54) (as := [vI x3, vI x5]) (rest := [vI x4]) (lo' := [iI x3, iI x5]) dM_butFor_54 mO_M_has lS_M_102 rfl rfl rfl rfl rfl rfl ?_
    refine sp_M_has s2 (fun c3 => ?_) (fun c3 => ?_)
    · have H := H.1 c3
      show Wq 6 0 0 mM_butFor 57 [iR 80, iI x1, iI x2, iI x3, iI x4, iI x5] [vI 1, vI x4] M _
      obtain ⟨s4, H⟩ := H
      refine wq_if_eq (pc := 57) (tgt := 78) dM_butFor_57 (by decide) (fun q => absurd q (by decide)) (fun _ => ?_)
      refine wq_aload_n (pc := 60) dM_butFor_60 rfl rfl ?_
      refine wq_iload (pc := 61) dM_butFor_61 rfl ?_
      refine wq_iconst (pc := 63) dM_butFor_63 rfl ?_
      refine wq_callV (d' := 1) (pc := 64) (as := [vI x5, vI 1]) (rest := [vI x4]) (lo' := [iR 80, iI x5, iI 1]) dM_butFor_64 mO_M_event2 lV_M_123 sh_80 (by decide) cl_11 rfl rfl rfl rfl rfl rfl ?_
      refine sp_M_event2 (i := (149 + 7 * x5)) (by omega) hS s4 ?_
      show Wq 6 0 0 mM_butFor 67 [iR 80, iI x1, iI x2, iI x3, iI x4, iI x5] [vI (gI M 81 (149 + 7 * x5)), vI x4] M _
      refine wq_iload_n (pc := 67) dM_butFor_67 rfl rfl ?_
      refine wq_icmp_eq (pc := 68) (tgt := 78) dM_butFor_68 (by decide) (fun c5 => ?_) (fun c5 => ?_)
      · have H := H.1 c5
        obtain ⟨s6, H⟩ := H
        refine wq_iconst (pc := 78) dM_butFor_78 rfl ?_
        refine wq_ior (pc := 79) dM_butFor_79 ?_
        refine wq_istore (pc := 80) (lo' := [iR 80, iI x1, iI x2, iI x3, iI (bOr x4 0), iI x5]) dM_butFor_80 rfl rfl ?_
        refine wq_iinc (pc := 82) (lo' := [iR 80, iI x1, iI x2, iI x3, iI (bOr x4 0), iI (x5 + 1)]) dM_butFor_82 rfl rfl (by rw [show wr (x5 + 1) = x5 + 1 from (Eq.trans (wr_eq (by omega) (by omega)) (by omega))]; rfl) ?_
        refine wq_goto (pc := 85) (tgt := 38) dM_butFor_85 (by decide) ?_
        exact H
      · have H := H.2 c5
        obtain ⟨s7, H⟩ := H
        refine wq_iconst (pc := 71) dM_butFor_71 rfl ?_
        refine wq_iload (pc := 72) dM_butFor_72 rfl ?_
        refine wq_ishl (pc := 74) dM_butFor_74 ?_
        refine wq_goto (pc := 75) (tgt := 79) dM_butFor_75 (by decide) ?_
        refine wq_ior (pc := 79) dM_butFor_79 ?_
        refine wq_istore (pc := 80) (lo' := [iR 80, iI x1, iI x2, iI x3, iI (bOr x4 (bShl 1 x5)), iI x5]) dM_butFor_80 rfl rfl ?_
        refine wq_iinc (pc := 82) (lo' := [iR 80, iI x1, iI x2, iI x3, iI (bOr x4 (bShl 1 x5)), iI (x5 + 1)]) dM_butFor_82 rfl rfl (by rw [show wr (x5 + 1) = x5 + 1 from (Eq.trans (wr_eq (by omega) (by omega)) (by omega))]; rfl) ?_
        refine wq_goto (pc := 85) (tgt := 38) dM_butFor_85 (by decide) ?_
        exact H
    · have H := H.2 c3
      show Wq 6 0 0 mM_butFor 57 [iR 80, iI x1, iI x2, iI x3, iI x4, iI x5] [vI 0, vI x4] M _
      obtain ⟨s8, H⟩ := H
      refine wq_if_eq (pc := 57) (tgt := 78) dM_butFor_57 (by decide) (fun _ => ?_) (fun q => absurd (by decide) q)
      refine wq_iconst (pc := 78) dM_butFor_78 rfl ?_
      refine wq_ior (pc := 79) dM_butFor_79 ?_
      refine wq_istore (pc := 80) (lo' := [iR 80, iI x1, iI x2, iI x3, iI (bOr x4 0), iI x5]) dM_butFor_80 rfl rfl ?_
      refine wq_iinc (pc := 82) (lo' := [iR 80, iI x1, iI x2, iI x3, iI (bOr x4 0), iI (x5 + 1)]) dM_butFor_82 rfl rfl (by rw [show wr (x5 + 1) = x5 + 1 from (Eq.trans (wr_eq (by omega) (by omega)) (by omega))]; rfl) ?_
      refine wq_goto (pc := 85) (tgt := 38) dM_butFor_85 (by decide) ?_
      exact H

set_option maxRecDepth 20000 in
theorem B_M_butFor_93 {x1 x2 x3 x4 x5 y0 : Int} {M : Mm} {Q : Mm → Option Mv → Prop} (H : Wq 5 0 0 mM_endBy 0 [iR 80, iI x4] [] M (fun M' v => Wq 6 0 0 mM_butFor 99 [iR 80, iI x1, iI x2, iI x3, iI x4, iI x5] (v.toList ++ [vI y0]) M' Q)) : Wq 6 0 0 mM_butFor 93 [iR 80, iI x1, iI x2, iI x3, iI x4, iI x5] [vI y0] M Q := by
  refine wq_aload_n (pc := 93) dM_butFor_93 rfl rfl ?_
  refine wq_iload (pc := 94) dM_butFor_94 rfl ?_
  refine wq_callV (d' := 5) (pc := 96) (as := [vI x4]) (rest := [vI y0]) (lo' := [iR 80, iI x4]) dM_butFor_96 mO_M_endBy lV_M_162 sh_80 (by decide) cl_11 rfl rfl rfl rfl rfl rfl ?_
  exact H

set_option maxRecDepth 20000 in
theorem B_M_butFor_99 {x1 x2 x3 x4 x5 y0 y1 : Int} {M : Mm} {Q : Mm → Option Mv → Prop} (H : ((-2147483648 ≤ y1 - y0 ∧ y1 - y0 < 2147483648) ∧ Q M (some (vI (y1 - y0))))) : Wq 6 0 0 mM_butFor 99 [iR 80, iI x1, iI x2, iI x3, iI x4, iI x5] [vI y0, vI y1] M Q := by
  obtain ⟨s1, H⟩ := H
  refine wq_isub (pc := 99) dM_butFor_99 ?_
  refine wq_re (x := (wr (y1 - y0))) (y := (y1 - y0)) (Eq.trans (wr_eq (by omega) (by omega)) (by omega)) ?_
  refine wq_ireturn (pc := 100) dM_butFor_100 trivial ?_
  exact H
set_option maxRecDepth 20000 in
theorem B_M_window_0 {x1 x2 x3 x4 : Int} {M : Mm} {Q : Mm → Option Mv → Prop} (hS : RefOK M) (H : ((5 ≤ x1 ∧ x1 ≤ 100 → ((0 ≤ x2 ∧ x2 ≤ 179 → (((-1) ≤ x3 ∧ x3 ≤ 3 → ((0 ≤ x4 ∧ x4 ≤ 900 → Wq 2 0 0 mM_knownOn 0 [iR 80, iI x4, none, none, none] [] M (fun M' v => Wq 6 0 0 mM_window 61 [iR 80, iI x1, iI x2, iI x3, iI x4, none, none, none, none, none] (v.toList ++ []) M' Q)) ∧ (¬ (0 ≤ x4 ∧ x4 ≤ 900) → Q (sI M 83 1 (wr (gI M 83 1 + 1))) (some (vI (-1000001)))))) ∧ (¬ ((-1) ≤ x3 ∧ x3 ≤ 3) → Q (sI M 83 1 (wr (gI M 83 1 + 1))) (some (vI (-1000001)))))) ∧ (¬ (0 ≤ x2 ∧ x2 ≤ 179) → Q (sI M 83 1 (wr (gI M 83 1 + 1))) (some (vI (-1000001)))))) ∧ (¬ (5 ≤ x1 ∧ x1 ≤ 100) → Q (sI M 83 1 (wr (gI M 83 1 + 1))) (some (vI (-1000001)))))) : Wq 6 0 0 mM_window 0 [iR 80, iI x1, iI x2, iI x3, iI x4, none, none, none, none, none] [] M Q := by
  refine wq_iload_n (pc := 0) dM_window_0 rfl rfl ?_
  refine wq_i2l (pc := 1) dM_window_1 ?_
  refine wq_ldc2 (pc := 2) (z := 5) dM_window_2 kO_M_74 (by decide) ?_
  refine wq_ldc2 (pc := 5) (z := 100) dM_window_5 kO_M_179 (by decide) ?_
  refine wq_callS (d' := 1) (pc := 8) (as := [vL x1, vL 5, vL 100]) (rest := []) (lo' := [iL x1, none, iL 5, none, iL 100, none]) dM_window_8 mO_M_within lS_M_68 rfl rfl rfl rfl rfl rfl ?_
  refine sp_M_within (fun c1 => ?_) (fun c1 => ?_)
  · have H := H.1 c1
    show Wq 6 0 0 mM_window 11 [iR 80, iI x1, iI x2, iI x3, iI x4, none, none, none, none, none] [vI 1] M _
    refine wq_if_eq (pc := 11) (tgt := 48) dM_window_11 (by decide) (fun q => absurd q (by decide)) (fun _ => ?_)
    refine wq_iload_n (pc := 14) dM_window_14 rfl rfl ?_
    refine wq_i2l (pc := 15) dM_window_15 ?_
    refine wq_lconst (pc := 16) (x := 0) dM_window_16 rfl rfl ?_
    refine wq_ldc2 (pc := 17) (z := 179) dM_window_17 kO_M_181 (by decide) ?_
    refine wq_callS (d' := 1) (pc := 20) (as := [vL x2, vL 0, vL 179]) (rest := []) (lo' := [iL x2, none, iL 0, none, iL 179, none]) dM_window_20 mO_M_within lS_M_68 rfl rfl rfl rfl rfl rfl ?_
    refine sp_M_within (fun c2 => ?_) (fun c2 => ?_)
    · have H := H.1 c2
      show Wq 6 0 0 mM_window 23 [iR 80, iI x1, iI x2, iI x3, iI x4, none, none, none, none, none] [vI 1] M _
      refine wq_if_eq (pc := 23) (tgt := 48) dM_window_23 (by decide) (fun q => absurd q (by decide)) (fun _ => ?_)
      refine wq_iload_n (pc := 26) dM_window_26 rfl rfl ?_
      refine wq_i2l (pc := 27) dM_window_27 ?_
      refine wq_ldc2 (pc := 28) (z := (-1)) dM_window_28 kO_M_183 (by decide) ?_
      refine wq_ldc2 (pc := 31) (z := 3) dM_window_31 kO_M_72 (by decide) ?_
      refine wq_callS (d' := 1) (pc := 34) (as := [vL x3, vL (-1), vL 3]) (rest := []) (lo' := [iL x3, none, iL ((-1)), none, iL 3, none]) dM_window_34 mO_M_within lS_M_68 rfl rfl rfl rfl rfl rfl ?_
      refine sp_M_within (fun c3 => ?_) (fun c3 => ?_)
      · have H := H.1 c3
        show Wq 6 0 0 mM_window 37 [iR 80, iI x1, iI x2, iI x3, iI x4, none, none, none, none, none] [vI 1] M _
        refine wq_if_eq (pc := 37) (tgt := 48) dM_window_37 (by decide) (fun q => absurd q (by decide)) (fun _ => ?_)
        refine wq_iload (pc := 40) dM_window_40 rfl ?_
        refine wq_callS (d' := 2) (pc := 42) (as := [vI x4]) (rest := []) (lo' := [iI x4]) dM_window_42 mO_M_isDay lS_M_128 rfl rfl rfl rfl rfl rfl ?_
        refine sp_M_isDay (fun c4 => ?_) (fun c4 => ?_)
        · have H := H.1 c4
          show Wq 6 0 0 mM_window 45 [iR 80, iI x1, iI x2, iI x3, iI x4, none, none, none, none, none] [vI 1] M _
          refine wq_if_ne (pc := 45) (tgt := 55) dM_window_45 (by decide) (fun _ => ?_) (fun q => absurd q (by decide))
          refine wq_aload_n (pc := 55) dM_window_55 rfl rfl ?_
          refine wq_iload (pc := 56) dM_window_56 rfl ?_
          refine wq_callV (d' := 2) (pc := 58) (as := [vI x4]) (rest := []) (lo' := [iR 80, iI x4, none, none, none]) dM_window_58 mO_M_knownOn lV_M_132 sh_80 (by decide) cl_11 rfl rfl rfl rfl rfl rfl ?_
          exact H
        · have H := H.2 c4
          show Wq 6 0 0 mM_window 45 [iR 80, iI x1, iI x2, iI x3, iI x4, none, none, none, none, none] [vI 0] M _
          refine wq_if_ne (pc := 45) (tgt := 55) dM_window_45 (by decide) (fun q => absurd q (by decide)) (fun _ => ?_)
          refine wq_aload_n (pc := 48) dM_window_48 rfl rfl ?_
          refine wq_ldc (pc := 49) (z := (-1000001)) dM_window_49 kO_M_78 (by decide) ?_
          refine wq_callV (d' := 1) (pc := 51) (as := [vI (-1000001)]) (rest := []) (lo' := [iR 80, iI ((-1000001))]) dM_window_51 mO_M_finding lV_M_79 sh_80 (by decide) cl_11 rfl rfl rfl rfl rfl rfl ?_
          refine sp_M_finding (k := 1) (by decide) (by decide) (by decide) hS ?_
          show Wq 6 0 0 mM_window 54 [iR 80, iI x1, iI x2, iI x3, iI x4, none, none, none, none, none] [vI (-1000001)] (sI M 83 1 (wr (gI M 83 1 + 1))) _
          refine wq_ireturn (pc := 54) dM_window_54 trivial ?_
          exact H
      · have H := H.2 c3
        show Wq 6 0 0 mM_window 37 [iR 80, iI x1, iI x2, iI x3, iI x4, none, none, none, none, none] [vI 0] M _
        refine wq_if_eq (pc := 37) (tgt := 48) dM_window_37 (by decide) (fun _ => ?_) (fun q => absurd (by decide) q)
        refine wq_aload_n (pc := 48) dM_window_48 rfl rfl ?_
        refine wq_ldc (pc := 49) (z := (-1000001)) dM_window_49 kO_M_78 (by decide) ?_
        refine wq_callV (d' := 1) (pc := 51) (as := [vI (-1000001)]) (rest := []) (lo' := [iR 80, iI ((-1000001))]) dM_window_51 mO_M_finding lV_M_79 sh_80 (by decide) cl_11 rfl rfl rfl rfl rfl rfl ?_
        refine sp_M_finding (k := 1) (by decide) (by decide) (by decide) hS ?_
        show Wq 6 0 0 mM_window 54 [iR 80, iI x1, iI x2, iI x3, iI x4, none, none, none, none, none] [vI (-1000001)] (sI M 83 1 (wr (gI M 83 1 + 1))) _
        refine wq_ireturn (pc := 54) dM_window_54 trivial ?_
        exact H
    · have H := H.2 c2
      show Wq 6 0 0 mM_window 23 [iR 80, iI x1, iI x2, iI x3, iI x4, none, none, none, none, none] [vI 0] M _
      refine wq_if_eq (pc := 23) (tgt := 48) dM_window_23 (by decide) (fun _ => ?_) (fun q => absurd (by decide) q)
      refine wq_aload_n (pc := 48) dM_window_48 rfl rfl ?_
      refine wq_ldc (pc := 49) (z := (-1000001)) dM_window_49 kO_M_78 (by decide) ?_
      refine wq_callV (d' := 1) (pc := 51) (as := [vI (-1000001)]) (rest := []) (lo' := [iR 80, iI ((-1000001))]) dM_window_51 mO_M_finding lV_M_79 sh_80 (by decide) cl_11 rfl rfl rfl rfl rfl rfl ?_
      refine sp_M_finding (k := 1) (by decide) (by decide) (by decide) hS ?_
      show Wq 6 0 0 mM_window 54 [iR 80, iI x1, iI x2, iI x3, iI x4, none, none, none, none, none] [vI (-1000001)] (sI M 83 1 (wr (gI M 83 1 + 1))) _
      refine wq_ireturn (pc := 54) dM_window_54 trivial ?_
      exact H
  · have H := H.2 c1
    show Wq 6 0 0 mM_window 11 [iR 80, iI x1, iI x2, iI x3, iI x4, none, none, none, none, none] [vI 0] M _
    refine wq_if_eq (pc := 11) (tgt := 48) dM_window_11 (by decide) (fun _ => ?_) (fun q => absurd (by decide) q)
    refine wq_aload_n (pc := 48) dM_window_48 rfl rfl ?_
    refine wq_ldc (pc := 49) (z := (-1000001)) dM_window_49 kO_M_78 (by decide) ?_
    refine wq_callV (d' := 1) (pc := 51) (as := [vI (-1000001)]) (rest := []) (lo' := [iR 80, iI ((-1000001))]) dM_window_51 mO_M_finding lV_M_79 sh_80 (by decide) cl_11 rfl rfl rfl rfl rfl rfl ?_
    refine sp_M_finding (k := 1) (by decide) (by decide) (by decide) hS ?_
    show Wq 6 0 0 mM_window 54 [iR 80, iI x1, iI x2, iI x3, iI x4, none, none, none, none, none] [vI (-1000001)] (sI M 83 1 (wr (gI M 83 1 + 1))) _
    refine wq_ireturn (pc := 54) dM_window_54 trivial ?_
    exact H

set_option maxRecDepth 20000 in
theorem B_M_window_61 {x1 x2 x3 x4 y0 : Int} {M : Mm} {Q : Mm → Option Mv → Prop} (H : Wq 6 0 0 mM_window 75 [iR 80, iI x1, iI x2, iI x3, iI x4, iI y0, iI 0, iI 0, iI 0, iI 0] [] M Q) : Wq 6 0 0 mM_window 61 [iR 80, iI x1, iI x2, iI x3, iI x4, none, none, none, none, none] [vI y0] M Q := by
  refine wq_istore (pc := 61) (lo' := [iR 80, iI x1, iI x2, iI x3, iI x4, iI y0, none, none, none, none]) dM_window_61 rfl rfl ?_
  refine wq_iconst (pc := 63) dM_window_63 rfl ?_
  refine wq_istore (pc := 64) (lo' := [iR 80, iI x1, iI x2, iI x3, iI x4, iI y0, iI 0, none, none, none]) dM_window_64 rfl rfl ?_
  refine wq_iconst (pc := 66) dM_window_66 rfl ?_
  refine wq_istore (pc := 67) (lo' := [iR 80, iI x1, iI x2, iI x3, iI x4, iI y0, iI 0, iI 0, none, none]) dM_window_67 rfl rfl ?_
  refine wq_iconst (pc := 69) dM_window_69 rfl ?_
  refine wq_istore (pc := 70) (lo' := [iR 80, iI x1, iI x2, iI x3, iI x4, iI y0, iI 0, iI 0, iI 0, none]) dM_window_70 rfl rfl ?_
  refine wq_iconst (pc := 72) dM_window_72 rfl ?_
  refine wq_istore (pc := 73) (lo' := [iR 80, iI x1, iI x2, iI x3, iI x4, iI y0, iI 0, iI 0, iI 0, iI 0]) dM_window_73 rfl rfl ?_
  exact H

set_option maxRecDepth 20000 in
theorem B_M_window_75 {x1 x2 x3 x4 x5 x6 x7 x8 x9 : Int} {M : Mm} {Q : Mm → Option Mv → Prop} (hS : RefOK M) (H : ((4 ≤ x9 → Wq 6 0 0 mM_window 98 [iR 80, iI x1, iI x2, iI x3, iI x4, iI x5, iI x6, iI x7, iI x8, iI 0] [] M Q) ∧ (¬ 4 ≤ x9 → (((0 ≤ x9 ∧ x9 < 4) ∧ (-2147483648 ≤ x9 + 1 ∧ x9 + 1 < 2147483648)) ∧ Wq 6 0 0 mM_window 75 [iR 80, iI x1, iI x2, iI x3, iI x4, iI x5, iI x6, iI x7, iI x8, iI (x9 + 1)] [] (sI M 93 x9 0) Q)))) : Wq 6 0 0 mM_window 75 [iR 80, iI x1, iI x2, iI x3, iI x4, iI x5, iI x6, iI x7, iI x8, iI x9] [] M Q := by
  refine wq_iload (pc := 75) dM_window_75 rfl ?_
  refine wq_iconst (pc := 77) dM_window_77 rfl ?_
  refine wq_icmp_ge (pc := 78) (tgt := 95) dM_window_78 (by decide) (fun c1 => ?_) (fun c1 => ?_)
  · have H := H.1 c1
    refine wq_iconst (pc := 95) dM_window_95 rfl ?_
    refine wq_istore (pc := 96) (lo' := [iR 80, iI x1, iI x2, iI x3, iI x4, iI x5, iI x6, iI x7, iI x8, iI 0]) dM_window_96 rfl rfl ?_
    exact H
  · have H := H.2 c1
    obtain ⟨⟨s2, s3⟩, H⟩ := H
    refine wq_aload_n (pc := 81) dM_window_81 rfl rfl ?_
    refine wq_getR (pc := 82) (z := 15) (b := 93) dM_window_82 fO_M_46 sh_80 rfl rfl (rf_80_15 hS) ?_
    refine wq_iload (pc := 85) dM_window_85 rfl ?_
    refine wq_iconst (pc := 87) dM_window_87 rfl ?_
    refine wq_iast (pc := 88) dM_window_88 sh_93 (by decide) s2.1 s2.2 ?_
    refine wq_iinc (pc := 89) (lo' := [iR 80, iI x1, iI x2, iI x3, iI x4, iI x5, iI x6, iI x7, iI x8, iI (x9 + 1)]) dM_window_89 rfl rfl (by rw [show wr (x9 + 1) = x9 + 1 from (Eq.trans (wr_eq (by omega) (by omega)) (by omega))]; rfl) ?_
    refine wq_goto (pc := 92) (tgt := 75) dM_window_92 (by decide) ?_
    exact H

set_option maxRecDepth 20000 in
theorem B_M_window_98 {x1 x2 x3 x4 x5 x6 x7 x8 x9 : Int} {M : Mm} {Q : Mm → Option Mv → Prop} (hS : RefOK M) (H : ((gI M 81 4 ≤ x9 → Wq 5 0 0 mM_endBy 0 [iR 80, iI x6] [] M (fun M' v => Wq 6 0 0 mM_window 214 [iR 80, iI x1, iI x2, iI x3, iI x4, iI x5, iI x6, iI x7, iI x8, iI x9] (v.toList ++ []) M' Q)) ∧ (¬ gI M 81 4 ≤ x9 → ((0 ≤ x5 ∧ x5 < 2147483648 ∧ 0 ≤ x9 ∧ x9 < 32) ∧ ((hb x5 x9 = true → (((0 ≤ 150 + 7 * x9 ∧ 150 + 7 * x9 < 1993) ∧ (-2147483648 ≤ x2 * x1 + x1 ∧ x2 * x1 + x1 < 2147483648)) ∧ ((x2 * x1 + x1 ≤ gI M 81 (150 + 7 * x9) → ((-2147483648 ≤ x9 + 1 ∧ x9 + 1 < 2147483648) ∧ Wq 6 0 0 mM_window 98 [iR 80, iI x1, iI x2, iI x3, iI x4, iI x5, iI x6, iI x7, iI x8, iI (x9 + 1)] [] M Q)) ∧ (¬ x2 * x1 + x1 ≤ gI M 81 (150 + 7 * x9) → (((0 ≤ 150 + 7 * x9 ∧ 150 + 7 * x9 < 1993) ∧ (-2147483648 ≤ x2 * x1 ∧ x2 * x1 < 2147483648)) ∧ ((x2 * x1 ≤ gI M 81 (150 + 7 * x9) → (((0 ≤ 149 + 7 * x9 ∧ 149 + 7 * x9 < 1993) ∧ (0 ≤ gI M 81 (149 + 7 * x9) ∧ gI M 81 (149 + 7 * x9) < 4) ∧ (0 ≤ 151 + 7 * x9 ∧ 151 + 7 * x9 < 1993) ∧ (-2147483648 ≤ gI M 93 (gI M 81 (149 + 7 * x9)) + gI M 81 (151 + 7 * x9) ∧ gI M 93 (gI M 81 (149 + 7 * x9)) + gI M 81 (151 + 7 * x9) < 2147483648) ∧ (0 ≤ 151 + 7 * x9 ∧ 151 + 7 * x9 < 1993) ∧ (-2147483648 ≤ x8 + gI M 81 (151 + 7 * x9) ∧ x8 + gI M 81 (151 + 7 * x9) < 2147483648) ∧ (-2147483648 ≤ x9 + 1 ∧ x9 + 1 < 2147483648)) ∧ Wq 6 0 0 mM_window 98 [iR 80, iI x1, iI x2, iI x3, iI x4, iI x5, iI (bOr x6 (bShl 1 x9)), iI x7, iI (x8 + gI M 81 (151 + 7 * x9)), iI (x9 + 1)] [] (sI M 93 (gI M 81 (149 + 7 * x9)) (gI M 93 (gI M 81 (149 + 7 * x9)) + gI M 81 (151 + 7 * x9))) Q)) ∧ (¬ x2 * x1 ≤ gI M 81 (150 + 7 * x9) → ((-2147483648 ≤ x9 + 1 ∧ x9 + 1 < 2147483648) ∧ Wq 6 0 0 mM_window 98 [iR 80, iI x1, iI x2, iI x3, iI x4, iI x5, iI (bOr x6 (bShl 1 x9)), iI (bOr x7 (bShl 1 x9)), iI x8, iI (x9 + 1)] [] M Q)))))))) ∧ (¬ (hb x5 x9 = true) → ((-2147483648 ≤ x9 + 1 ∧ x9 + 1 < 2147483648) ∧ Wq 6 0 0 mM_window 98 [iR 80, iI x1, iI x2, iI x3, iI x4, iI x5, iI x6, iI x7, iI x8, iI (x9 + 1)] [] M Q))))))) : Wq 6 0 0 mM_window 98 [iR 80, iI x1, iI x2, iI x3, iI x4, iI x5, iI x6, iI x7, iI x8, iI x9] [] M Q := by
  refine wq_iload (pc := 98) dM_window_98 rfl ?_
  refine wq_aload_n (pc := 100) dM_window_100 rfl rfl ?_
  refine wq_getR (pc := 101) (z := 0) (b := 81) dM_window_101 fO_M_9 sh_80 rfl rfl (rf_80_0 hS) ?_
  refine wq_iconst (pc := 104) dM_window_104 rfl ?_
  refine wq_iald (pc := 105) dM_window_105 sh_81 (by decide) (by decide) ?_
  refine wq_icmp_ge (pc := 106) (tgt := 208) dM_window_106 (by decide) (fun c1 => ?_) (fun c1 => ?_)
  · have H := H.1 c1
    refine wq_aload_n (pc := 208) dM_window_208 rfl rfl ?_
    refine wq_iload (pc := 209) dM_window_209 rfl ?_
    refine wq_callV (d' := 5) (pc := 211) (as := [vI x6]) (rest := []) (lo' := [iR 80, iI x6]) dM_window_211 mO_M_endBy lV_M_162 sh_80 (by decide) cl_11 rfl rfl rfl rfl rfl rfl ?_
    exact H
  · have H := H.2 c1
    obtain ⟨s2, H⟩ := H
    refine wq_iload (pc := 109) dM_window_109 rfl ?_
    refine wq_iload (pc := 111) dM_window_111 rfl ?_
    refine wq_callS (d' := 1) (pc := 113) (as := [vI x5, vI x9]) (rest := []) (lo' := [iI x5, iI x9]) dM_window_113 mO_M_has lS_M_102 rfl rfl rfl rfl rfl rfl ?_
    refine sp_M_has s2 (fun c3 => ?_) (fun c3 => ?_)
    · have H := H.1 c3
      show Wq 6 0 0 mM_window 116 [iR 80, iI x1, iI x2, iI x3, iI x4, iI x5, iI x6, iI x7, iI x8, iI x9] [vI 1] M _
      obtain ⟨⟨s4, s5⟩, H⟩ := H
      refine wq_if_eq (pc := 116) (tgt := 202) dM_window_116 (by decide) (fun q => absurd q (by decide)) (fun _ => ?_)
      refine wq_aload_n (pc := 119) dM_window_119 rfl rfl ?_
      refine wq_iload (pc := 120) dM_window_120 rfl ?_
      refine wq_iconst (pc := 122) dM_window_122 rfl ?_
      refine wq_callV (d' := 1) (pc := 123) (as := [vI x9, vI 2]) (rest := []) (lo' := [iR 80, iI x9, iI 2]) dM_window_123 mO_M_event2 lV_M_123 sh_80 (by decide) cl_11 rfl rfl rfl rfl rfl rfl ?_
      refine sp_M_event2 (i := (150 + 7 * x9)) (by omega) hS s4 ?_
      show Wq 6 0 0 mM_window 126 [iR 80, iI x1, iI x2, iI x3, iI x4, iI x5, iI x6, iI x7, iI x8, iI x9] [vI (gI M 81 (150 + 7 * x9))] M _
      refine wq_iload_n (pc := 126) dM_window_126 rfl rfl ?_
      refine wq_iload_n (pc := 127) dM_window_127 rfl rfl ?_
      refine wq_imul (pc := 128) dM_window_128 ?_
      refine wq_iload_n (pc := 129) dM_window_129 rfl rfl ?_
      refine wq_iadd (pc := 130) dM_window_130 ?_
      refine wq_re (x := (wr (wr (x2 * x1) + x1))) (y := (x2 * x1 + x1)) (by (try simp only [wr_al, wr_ar, wr_sl, wr_sr, wr_ml, wr_mr, wr_nn, wr_ww]); exact Eq.trans (wr_eq (by omega) (by omega)) (by omega)) ?_
      refine wq_icmp_ge (pc := 131) (tgt := 202) dM_window_131 (by decide) (fun c6 => ?_) (fun c6 => ?_)
      · have H := H.1 c6
        obtain ⟨s7, H⟩ := H
        refine wq_iinc (pc := 202) (lo' := [iR 80, iI x1, iI x2, iI x3, iI x4, iI x5, iI x6, iI x7, iI x8, iI (x9 + 1)]) dM_window_202 rfl rfl (by rw [show wr (x9 + 1) = x9 + 1 from (Eq.trans (wr_eq (by omega) (by omega)) (by omega))]; rfl) ?_
        refine wq_goto (pc := 205) (tgt := 98) dM_window_205 (by decide) ?_
        exact H
      · have H := H.2 c6
        obtain ⟨⟨s8, s9⟩, H⟩ := H
        refine wq_iload (pc := 134) dM_window_134 rfl ?_
        refine wq_iconst (pc := 136) dM_window_136 rfl ?_
        refine wq_iload (pc := 137) dM_window_137 rfl ?_
        refine wq_ishl (pc := 139) dM_window_139 ?_
        refine wq_ior (pc := 140) dM_window_140 ?_
        refine wq_istore (pc := 141) (lo' := [iR 80, iI x1, iI x2, iI x3, iI x4, iI x5, iI (bOr x6 (bShl 1 x9)), iI x7, iI x8, iI x9]) dM_window_141 rfl rfl ?_
        refine wq_aload_n (pc := 143) dM_window_143 rfl rfl ?_
        refine wq_iload (pc := 144) dM_window_144 rfl ?_
        refine wq_iconst (pc := 146) dM_window_146 rfl ?_
        refine wq_callV (d' := 1) (pc := 147) (as := [vI x9, vI 2]) (rest := []) (lo' := [iR 80, iI x9, iI 2]) dM_window_147 mO_M_event2 lV_M_123 sh_80 (by decide) cl_11 rfl rfl rfl rfl rfl rfl ?_
        refine sp_M_event2 (i := (150 + 7 * x9)) (by omega) hS s8 ?_
        show Wq 6 0 0 mM_window 150 [iR 80, iI x1, iI x2, iI x3, iI x4, iI x5, iI (bOr x6 (bShl 1 x9)), iI x7, iI x8, iI x9] [vI (gI M 81 (150 + 7 * x9))] M _
        refine wq_iload_n (pc := 150) dM_window_150 rfl rfl ?_
        refine wq_iload_n (pc := 151) dM_window_151 rfl rfl ?_
        refine wq_imul (pc := 152) dM_window_152 ?_
        refine wq_re (x := (wr (x2 * x1))) (y := (x2 * x1)) (Eq.trans (wr_eq (by omega) (by omega)) (by omega)) ?_
        refine wq_icmp_ge (pc := 153) (tgt := 168) dM_window_153 (by decide) (fun c10 => ?_) (fun c10 => ?_)
        · have H := H.1 c10
          obtain ⟨⟨s11, s12, s13, s14, s15, s16, s17⟩, H⟩ := H
          refine wq_aload_n (pc := 168) dM_window_168 rfl rfl ?_
          refine wq_getR (pc := 169) (z := 15) (b := 93) dM_window_169 fO_M_46 sh_80 rfl rfl (rf_80_15 hS) ?_
          refine wq_aload_n (pc := 172) dM_window_172 rfl rfl ?_
          refine wq_iload (pc := 173) dM_window_173 rfl ?_
          refine wq_iconst (pc := 175) dM_window_175 rfl ?_
          refine wq_callV (d' := 1) (pc := 176) (as := [vI x9, vI 1]) (rest := [vR 93]) (lo' := [iR 80, iI x9, iI 1]) dM_window_176 mO_M_event2 lV_M_123 sh_80 (by decide) cl_11 rfl rfl rfl rfl rfl rfl ?_
          refine sp_M_event2 (i := (149 + 7 * x9)) (by omega) hS s11 ?_
          show Wq 6 0 0 mM_window 179 [iR 80, iI x1, iI x2, iI x3, iI x4, iI x5, iI (bOr x6 (bShl 1 x9)), iI x7, iI x8, iI x9] [vI (gI M 81 (149 + 7 * x9)), vR 93] M _
          refine wq_dup2 (pc := 179) dM_window_179 rfl rfl ?_
          refine wq_iald (pc := 180) dM_window_180 sh_93 s12.1 s12.2 ?_
          refine wq_aload_n (pc := 181) dM_window_181 rfl rfl ?_
          refine wq_iload (pc := 182) dM_window_182 rfl ?_
          refine wq_iconst (pc := 184) dM_window_184 rfl ?_
          refine wq_callV (d' := 1) (pc := 185) (as := [vI x9, vI 3]) (rest := [vI (gI M 93 (gI M 81 (149 + 7 * x9))), vI (gI M 81 (149 + 7 * x9)), vR 93]) (lo' := [iR 80, iI x9, iI 3]) dM_window_185 mO_M_event2 lV_M_123 sh_80 (by decide) cl_11 rfl rfl rfl rfl rfl rfl ?_
          refine sp_M_event2 (i := (151 + 7 * x9)) (by omega) hS s13 ?_
          show Wq 6 0 0 mM_window 188 [iR 80, iI x1, iI x2, iI x3, iI x4, iI x5, iI (bOr x6 (bShl 1 x9)), iI x7, iI x8, iI x9] [vI (gI M 81 (151 + 7 * x9)), vI (gI M 93 (gI M 81 (149 + 7 * x9))), vI (gI M 81 (149 + 7 * x9)), vR 93] M _
          refine wq_iadd (pc := 188) dM_window_188 ?_
          refine wq_re (x := (wr (gI M 93 (gI M 81 (149 + 7 * x9)) + gI M 81 (151 + 7 * x9)))) (y := (gI M 93 (gI M 81 (149 + 7 * x9)) + gI M 81 (151 + 7 * x9))) (Eq.trans (wr_eq (by omega) (by omega)) (by omega)) ?_
          refine wq_iast (pc := 189) dM_window_189 sh_93 (by decide) s12.1 s12.2 ?_
          refine wq_iload (pc := 190) dM_window_190 rfl ?_
          refine wq_aload_n (pc := 192) dM_window_192 rfl rfl ?_
          refine wq_iload (pc := 193) dM_window_193 rfl ?_
          refine wq_iconst (pc := 195) dM_window_195 rfl ?_
          refine wq_callV (d' := 1) (pc := 196) (as := [vI x9, vI 3]) (rest := [vI x8]) (lo' := [iR 80, iI x9, iI 3]) dM_window_196 mO_M_event2 lV_M_123 sh_80 (by decide) cl_11 rfl rfl rfl rfl rfl rfl ?_
          refine sp_M_event2 (i := (151 + 7 * x9)) (by omega) hS s15 ?_
          show Wq 6 0 0 mM_window 199 [iR 80, iI x1, iI x2, iI x3, iI x4, iI x5, iI (bOr x6 (bShl 1 x9)), iI x7, iI x8, iI x9] [vI (gI (sI M 93 (gI M 81 (149 + 7 * x9)) (gI M 93 (gI M 81 (149 + 7 * x9)) + gI M 81 (151 + 7 * x9))) 81 (151 + 7 * x9)), vI x8] (sI M 93 (gI M 81 (149 + 7 * x9)) (gI M 93 (gI M 81 (149 + 7 * x9)) + gI M 81 (151 + 7 * x9))) _
          refine wq_re (x := (gI (sI M 93 (gI M 81 (149 + 7 * x9)) (gI M 93 (gI M 81 (149 + 7 * x9)) + gI M 81 (151 + 7 * x9))) 81 (151 + 7 * x9))) (y := (gI M 81 (151 + 7 * x9))) rfl ?_
          refine wq_iadd (pc := 199) dM_window_199 ?_
          refine wq_re (x := (wr (x8 + gI M 81 (151 + 7 * x9)))) (y := (x8 + gI M 81 (151 + 7 * x9))) (Eq.trans (wr_eq (by omega) (by omega)) (by omega)) ?_
          refine wq_istore (pc := 200) (lo' := [iR 80, iI x1, iI x2, iI x3, iI x4, iI x5, iI (bOr x6 (bShl 1 x9)), iI x7, iI (x8 + gI M 81 (151 + 7 * x9)), iI x9]) dM_window_200 rfl rfl ?_
          refine wq_iinc (pc := 202) (lo' := [iR 80, iI x1, iI x2, iI x3, iI x4, iI x5, iI (bOr x6 (bShl 1 x9)), iI x7, iI (x8 + gI M 81 (151 + 7 * x9)), iI (x9 + 1)]) dM_window_202 rfl rfl (by rw [show wr (x9 + 1) = x9 + 1 from (Eq.trans (wr_eq (by omega) (by omega)) (by omega))]; rfl) ?_
          refine wq_goto (pc := 205) (tgt := 98) dM_window_205 (by decide) ?_
          exact H
        · have H := H.2 c10
          obtain ⟨s18, H⟩ := H
          refine wq_iload (pc := 156) dM_window_156 rfl ?_
          refine wq_iconst (pc := 158) dM_window_158 rfl ?_
          refine wq_iload (pc := 159) dM_window_159 rfl ?_
          refine wq_ishl (pc := 161) dM_window_161 ?_
          refine wq_ior (pc := 162) dM_window_162 ?_
          refine wq_istore (pc := 163) (lo' := [iR 80, iI x1, iI x2, iI x3, iI x4, iI x5, iI (bOr x6 (bShl 1 x9)), iI (bOr x7 (bShl 1 x9)), iI x8, iI x9]) dM_window_163 rfl rfl ?_
          refine wq_goto (pc := 165) (tgt := 202) dM_window_165 (by decide) ?_
          refine wq_iinc (pc := 202) (lo' := [iR 80, iI x1, iI x2, iI x3, iI x4, iI x5, iI (bOr x6 (bShl 1 x9)), iI (bOr x7 (bShl 1 x9)), iI x8, iI (x9 + 1)]) dM_window_202 rfl rfl (by rw [show wr (x9 + 1) = x9 + 1 from (Eq.trans (wr_eq (by omega) (by omega)) (by omega))]; rfl) ?_
          refine wq_goto (pc := 205) (tgt := 98) dM_window_205 (by decide) ?_
          exact H
    · have H := H.2 c3
      show Wq 6 0 0 mM_window 116 [iR 80, iI x1, iI x2, iI x3, iI x4, iI x5, iI x6, iI x7, iI x8, iI x9] [vI 0] M _
      obtain ⟨s19, H⟩ := H
      refine wq_if_eq (pc := 116) (tgt := 202) dM_window_116 (by decide) (fun _ => ?_) (fun q => absurd (by decide) q)
      refine wq_iinc (pc := 202) (lo' := [iR 80, iI x1, iI x2, iI x3, iI x4, iI x5, iI x6, iI x7, iI x8, iI (x9 + 1)]) dM_window_202 rfl rfl (by rw [show wr (x9 + 1) = x9 + 1 from (Eq.trans (wr_eq (by omega) (by omega)) (by omega))]; rfl) ?_
      refine wq_goto (pc := 205) (tgt := 98) dM_window_205 (by decide) ?_
      exact H

set_option maxRecDepth 20000 in
theorem B_M_window_214 {x1 x2 x3 x4 x5 x6 x7 x8 x9 y0 : Int} {M : Mm} {Q : Mm → Option Mv → Prop} (H : Wq 5 0 0 mM_endBy 0 [iR 80, iI x7] [] M (fun M' v => Wq 6 0 0 mM_window 220 [iR 80, iI x1, iI x2, iI x3, iI x4, iI x5, iI x6, iI x7, iI x8, iI x9] (v.toList ++ [vI y0]) M' Q)) : Wq 6 0 0 mM_window 214 [iR 80, iI x1, iI x2, iI x3, iI x4, iI x5, iI x6, iI x7, iI x8, iI x9] [vI y0] M Q := by
  refine wq_aload_n (pc := 214) dM_window_214 rfl rfl ?_
  refine wq_iload (pc := 215) dM_window_215 rfl ?_
  refine wq_callV (d' := 5) (pc := 217) (as := [vI x7]) (rest := [vI y0]) (lo' := [iR 80, iI x7]) dM_window_217 mO_M_endBy lV_M_162 sh_80 (by decide) cl_11 rfl rfl rfl rfl rfl rfl ?_
  exact H

set_option maxRecDepth 20000 in
theorem B_M_window_220 {x1 x2 x3 x4 x5 x6 x7 x8 x9 y0 y1 : Int} {M : Mm} {Q : Mm → Option Mv → Prop} (H : ((-2147483648 ≤ y1 - y0 ∧ y1 - y0 < 2147483648) ∧ ((0 ≤ x3 → ((¬ x8 = 0 → Wq 1 0 0 mM_partOf 0 [iR 80, iI (y1 - y0), iI x8, iI x3, none, none, none, none, none] [] M (fun M' v => Wq 6 0 0 mM_window 250 [iR 80, iI x1, iI x2, iI x3, iI x4, iI x5, iI x6, iI x7, iI x8, iI (y1 - y0)] (v.toList ++ []) M' Q)) ∧ (x8 = 0 → Q M (some (vI 0))))) ∧ (¬ 0 ≤ x3 → Q M (some (vI (y1 - y0))))))) : Wq 6 0 0 mM_window 220 [iR 80, iI x1, iI x2, iI x3, iI x4, iI x5, iI x6, iI x7, iI x8, iI x9] [vI y0, vI y1] M Q := by
  obtain ⟨s1, H⟩ := H
  refine wq_isub (pc := 220) dM_window_220 ?_
  refine wq_re (x := (wr (y1 - y0))) (y := (y1 - y0)) (Eq.trans (wr_eq (by omega) (by omega)) (by omega)) ?_
  refine wq_istore (pc := 221) (lo' := [iR 80, iI x1, iI x2, iI x3, iI x4, iI x5, iI x6, iI x7, iI x8, iI (y1 - y0)]) dM_window_221 rfl rfl ?_
  refine wq_iload_n (pc := 223) dM_window_223 rfl rfl ?_
  refine wq_if_ge (pc := 224) (tgt := 232) dM_window_224 (by decide) (fun c2 => ?_) (fun c2 => ?_)
  · have H := H.1 c2
    refine wq_iload (pc := 232) dM_window_232 rfl ?_
    refine wq_if_ne (pc := 234) (tgt := 241) dM_window_234 (by decide) (fun c3 => ?_) (fun c3 => ?_)
    · have H := H.1 c3
      refine wq_aload_n (pc := 241) dM_window_241 rfl rfl ?_
      refine wq_iload (pc := 242) dM_window_242 rfl ?_
      refine wq_iload (pc := 244) dM_window_244 rfl ?_
      refine wq_iload_n (pc := 246) dM_window_246 rfl rfl ?_
      refine wq_callV (d' := 1) (pc := 247) (as := [vI (y1 - y0), vI x8, vI x3]) (rest := []) (lo' := [iR 80, iI (y1 - y0), iI x8, iI x3, none, none, none, none, none]) dM_window_247 mO_M_partOf lV_M_185 sh_80 (by decide) cl_11 rfl rfl rfl rfl rfl rfl ?_
      exact H
    · have H := H.2 c3
      refine wq_iconst (pc := 237) dM_window_237 rfl ?_
      refine wq_goto (pc := 238) (tgt := 250) dM_window_238 (by decide) ?_
      refine wq_ireturn (pc := 250) dM_window_250 trivial ?_
      exact H
  · have H := H.2 c2
    refine wq_iload (pc := 227) dM_window_227 rfl ?_
    refine wq_goto (pc := 229) (tgt := 250) dM_window_229 (by decide) ?_
    refine wq_ireturn (pc := 250) dM_window_250 trivial ?_
    exact H

set_option maxRecDepth 20000 in
theorem B_M_window_250 {x1 x2 x3 x4 x5 x6 x7 x8 x9 y0 : Int} {M : Mm} {Q : Mm → Option Mv → Prop} (H : Q M (some (vI y0))) : Wq 6 0 0 mM_window 250 [iR 80, iI x1, iI x2, iI x3, iI x4, iI x5, iI x6, iI x7, iI x8, iI x9] [vI y0] M Q := by
  refine wq_ireturn (pc := 250) dM_window_250 trivial ?_
  exact H
set_option maxRecDepth 20000 in
theorem B_M_partOf_0 {x1 x2 x3 : Int} {M : Mm} {Q : Mm → Option Mv → Prop} (H : Wq 1 0 0 mM_partOf 6 [iR 80, iI x1, iI x2, iI x3, iI x1, iI 0, none, none, none] [] M Q) : Wq 1 0 0 mM_partOf 0 [iR 80, iI x1, iI x2, iI x3, none, none, none, none, none] [] M Q := by
  refine wq_iload_n (pc := 0) dM_partOf_0 rfl rfl ?_
  refine wq_istore (pc := 1) (lo' := [iR 80, iI x1, iI x2, iI x3, iI x1, none, none, none, none]) dM_partOf_1 rfl rfl ?_
  refine wq_iconst (pc := 3) dM_partOf_3 rfl ?_
  refine wq_istore (pc := 4) (lo' := [iR 80, iI x1, iI x2, iI x3, iI x1, iI 0, none, none, none]) dM_partOf_4 rfl rfl ?_
  exact H

set_option maxRecDepth 20000 in
theorem B_M_partOf_6 {x1 x2 x3 x4 x5 : Int} {M : Mm} {Q : Mm → Option Mv → Prop} (hS : RefOK M) (H : ((4 ≤ x5 → (((0 ≤ x3 ∧ x3 < 4) ∧ (-2147483648 ≤ x1 * gI M 93 x3 ∧ x1 * gI M 93 x3 < 2147483648) ∧ ¬ x2 = 0 ∧ (-2147483648 ≤ Int.tmod (x1 * gI M 93 x3) x2 ∧ Int.tmod (x1 * gI M 93 x3) x2 < 2147483648)) ∧ Wq 1 0 0 mM_partOf 52 [iR 80, iI x1, iI x2, iI x3, iI x4, iI (Int.tmod (x1 * gI M 93 x3) x2), iI 0, iI 0, none] [] M Q)) ∧ (¬ 4 ≤ x5 → (((0 ≤ x5 ∧ x5 < 4) ∧ (-2147483648 ≤ x1 * gI M 93 x5 ∧ x1 * gI M 93 x5 < 2147483648) ∧ ¬ x2 = 0 ∧ (-2147483648 ≤ x4 - Int.tdiv (x1 * gI M 93 x5) x2 ∧ x4 - Int.tdiv (x1 * gI M 93 x5) x2 < 2147483648) ∧ (-2147483648 ≤ x5 + 1 ∧ x5 + 1 < 2147483648)) ∧ Wq 1 0 0 mM_partOf 6 [iR 80, iI x1, iI x2, iI x3, iI (x4 - Int.tdiv (x1 * gI M 93 x5) x2), iI (x5 + 1), none, none, none] [] M Q)))) : Wq 1 0 0 mM_partOf 6 [iR 80, iI x1, iI x2, iI x3, iI x4, iI x5, none, none, none] [] M Q := by
  refine wq_iload (pc := 6) dM_partOf_6 rfl ?_
  refine wq_iconst (pc := 8) dM_partOf_8 rfl ?_
  refine wq_icmp_ge (pc := 9) (tgt := 34) dM_partOf_9 (by decide) (fun c1 => ?_) (fun c1 => ?_)
  · have H := H.1 c1
    obtain ⟨⟨s2, s3, s4, s5⟩, H⟩ := H
    refine wq_iload_n (pc := 34) dM_partOf_34 rfl rfl ?_
    refine wq_aload_n (pc := 35) dM_partOf_35 rfl rfl ?_
    refine wq_getR (pc := 36) (z := 15) (b := 93) dM_partOf_36 fO_M_46 sh_80 rfl rfl (rf_80_15 hS) ?_
    refine wq_iload_n (pc := 39) dM_partOf_39 rfl rfl ?_
    refine wq_iald (pc := 40) dM_partOf_40 sh_93 s2.1 s2.2 ?_
    refine wq_imul (pc := 41) dM_partOf_41 ?_
    refine wq_iload_n (pc := 42) dM_partOf_42 rfl rfl ?_
    refine wq_re2 (x := (wr (x1 * gI M 93 x3))) (y := (x1 * gI M 93 x3)) (Eq.trans (wr_eq (by omega) (by omega)) (by omega)) ?_
    refine wq_irem (pc := 43) dM_partOf_43 s4 ?_
    refine wq_re (x := (wr (Int.tmod (x1 * gI M 93 x3) x2))) (y := (Int.tmod (x1 * gI M 93 x3) x2)) (Eq.trans (wr_eq (by omega) (by omega)) (by omega)) ?_
    refine wq_istore (pc := 44) (lo' := [iR 80, iI x1, iI x2, iI x3, iI x4, iI (Int.tmod (x1 * gI M 93 x3) x2), none, none, none]) dM_partOf_44 rfl rfl ?_
    refine wq_iconst (pc := 46) dM_partOf_46 rfl ?_
    refine wq_istore (pc := 47) (lo' := [iR 80, iI x1, iI x2, iI x3, iI x4, iI (Int.tmod (x1 * gI M 93 x3) x2), iI 0, none, none]) dM_partOf_47 rfl rfl ?_
    refine wq_iconst (pc := 49) dM_partOf_49 rfl ?_
    refine wq_istore (pc := 50) (lo' := [iR 80, iI x1, iI x2, iI x3, iI x4, iI (Int.tmod (x1 * gI M 93 x3) x2), iI 0, iI 0, none]) dM_partOf_50 rfl rfl ?_
    exact H
  · have H := H.2 c1
    obtain ⟨⟨s6, s7, s8, s9, s10⟩, H⟩ := H
    refine wq_iload (pc := 12) dM_partOf_12 rfl ?_
    refine wq_iload_n (pc := 14) dM_partOf_14 rfl rfl ?_
    refine wq_aload_n (pc := 15) dM_partOf_15 rfl rfl ?_
    refine wq_getR (pc := 16) (z := 15) (b := 93) dM_partOf_16 fO_M_46 sh_80 rfl rfl (rf_80_15 hS) ?_
    refine wq_iload (pc := 19) dM_partOf_19 rfl ?_
    refine wq_iald (pc := 21) dM_partOf_21 sh_93 s6.1 s6.2 ?_
    refine wq_imul (pc := 22) dM_partOf_22 ?_
    refine wq_iload_n (pc := 23) dM_partOf_23 rfl rfl ?_
    refine wq_re2 (x := (wr (x1 * gI M 93 x5))) (y := (x1 * gI M 93 x5)) (Eq.trans (wr_eq (by omega) (by omega)) (by omega)) ?_
    refine wq_idiv (pc := 24) dM_partOf_24 s8 ?_
    refine wq_isub (pc := 25) dM_partOf_25 ?_
    refine wq_re (x := (wr (x4 - wr (Int.tdiv (x1 * gI M 93 x5) x2)))) (y := (x4 - Int.tdiv (x1 * gI M 93 x5) x2)) (by (try simp only [wr_al, wr_ar, wr_sl, wr_sr, wr_ml, wr_mr, wr_nn, wr_ww]); exact Eq.trans (wr_eq (by omega) (by omega)) (by omega)) ?_
    refine wq_istore (pc := 26) (lo' := [iR 80, iI x1, iI x2, iI x3, iI (x4 - Int.tdiv (x1 * gI M 93 x5) x2), iI x5, none, none, none]) dM_partOf_26 rfl rfl ?_
    refine wq_iinc (pc := 28) (lo' := [iR 80, iI x1, iI x2, iI x3, iI (x4 - Int.tdiv (x1 * gI M 93 x5) x2), iI (x5 + 1), none, none, none]) dM_partOf_28 rfl rfl (by rw [show wr (x5 + 1) = x5 + 1 from (Eq.trans (wr_eq (by omega) (by omega)) (by omega))]; rfl) ?_
    refine wq_goto (pc := 31) (tgt := 6) dM_partOf_31 (by decide) ?_
    exact H

set_option maxRecDepth 20000 in
theorem B_M_partOf_52 {x1 x2 x3 x4 x5 x6 x7 : Int} {M : Mm} {Q : Mm → Option Mv → Prop} (hS : RefOK M) (H : ((4 ≤ x7 → (((0 ≤ x3 ∧ x3 < 4) ∧ (-2147483648 ≤ x1 * gI M 93 x3 ∧ x1 * gI M 93 x3 < 2147483648) ∧ ¬ x2 = 0) ∧ ((x4 ≤ x6 → ((-2147483648 ≤ Int.tdiv (x1 * gI M 93 x3) x2 ∧ Int.tdiv (x1 * gI M 93 x3) x2 < 2147483648) ∧ Q M (some (vI (Int.tdiv (x1 * gI M 93 x3) x2))))) ∧ (¬ x4 ≤ x6 → ((-2147483648 ≤ Int.tdiv (x1 * gI M 93 x3) x2 + 1 ∧ Int.tdiv (x1 * gI M 93 x3) x2 + 1 < 2147483648) ∧ Q M (some (vI (Int.tdiv (x1 * gI M 93 x3) x2 + 1)))))))) ∧ (¬ 4 ≤ x7 → (((0 ≤ x7 ∧ x7 < 4) ∧ (-2147483648 ≤ x1 * gI M 93 x7 ∧ x1 * gI M 93 x7 < 2147483648) ∧ ¬ x2 = 0 ∧ (-2147483648 ≤ Int.tmod (x1 * gI M 93 x7) x2 ∧ Int.tmod (x1 * gI M 93 x7) x2 < 2147483648)) ∧ ((x5 < Int.tmod (x1 * gI M 93 x7) x2 → (((-2147483648 ≤ x6 + 1 ∧ x6 + 1 < 2147483648) ∧ (-2147483648 ≤ x7 + 1 ∧ x7 + 1 < 2147483648)) ∧ Wq 1 0 0 mM_partOf 52 [iR 80, iI x1, iI x2, iI x3, iI x4, iI x5, iI (x6 + 1), iI (x7 + 1), none] [] M Q)) ∧ (¬ x5 < Int.tmod (x1 * gI M 93 x7) x2 → ((¬ Int.tmod (x1 * gI M 93 x7) x2 = x5 → (((-2147483648 ≤ x6 ∧ x6 < 2147483648) ∧ (-2147483648 ≤ x7 + 1 ∧ x7 + 1 < 2147483648)) ∧ Wq 1 0 0 mM_partOf 52 [iR 80, iI x1, iI x2, iI x3, iI x4, iI x5, iI x6, iI (x7 + 1), none] [] M Q)) ∧ (Int.tmod (x1 * gI M 93 x7) x2 = x5 → ((x3 ≤ x7 → (((-2147483648 ≤ x6 ∧ x6 < 2147483648) ∧ (-2147483648 ≤ x7 + 1 ∧ x7 + 1 < 2147483648)) ∧ Wq 1 0 0 mM_partOf 52 [iR 80, iI x1, iI x2, iI x3, iI x4, iI x5, iI x6, iI (x7 + 1), none] [] M Q)) ∧ (¬ x3 ≤ x7 → (((-2147483648 ≤ x6 + 1 ∧ x6 + 1 < 2147483648) ∧ (-2147483648 ≤ x7 + 1 ∧ x7 + 1 < 2147483648)) ∧ Wq 1 0 0 mM_partOf 52 [iR 80, iI x1, iI x2, iI x3, iI x4, iI x5, iI (x6 + 1), iI (x7 + 1), none] [] M Q))))))))))) : Wq 1 0 0 mM_partOf 52 [iR 80, iI x1, iI x2, iI x3, iI x4, iI x5, iI x6, iI x7, none] [] M Q := by
  refine wq_iload (pc := 52) dM_partOf_52 rfl ?_
  refine wq_iconst (pc := 54) dM_partOf_54 rfl ?_
  refine wq_icmp_ge (pc := 55) (tgt := 107) dM_partOf_55 (by decide) (fun c1 => ?_) (fun c1 => ?_)
  · have H := H.1 c1
    obtain ⟨⟨s2, s3, s4⟩, H⟩ := H
    refine wq_iload_n (pc := 107) dM_partOf_107 rfl rfl ?_
    refine wq_aload_n (pc := 108) dM_partOf_108 rfl rfl ?_
    refine wq_getR (pc := 109) (z := 15) (b := 93) dM_partOf_109 fO_M_46 sh_80 rfl rfl (rf_80_15 hS) ?_
    refine wq_iload_n (pc := 112) dM_partOf_112 rfl rfl ?_
    refine wq_iald (pc := 113) dM_partOf_113 sh_93 s2.1 s2.2 ?_
    refine wq_imul (pc := 114) dM_partOf_114 ?_
    refine wq_iload_n (pc := 115) dM_partOf_115 rfl rfl ?_
    refine wq_re2 (x := (wr (x1 * gI M 93 x3))) (y := (x1 * gI M 93 x3)) (Eq.trans (wr_eq (by omega) (by omega)) (by omega)) ?_
    refine wq_idiv (pc := 116) dM_partOf_116 s4 ?_
    refine wq_iload (pc := 117) dM_partOf_117 rfl ?_
    refine wq_iload (pc := 119) dM_partOf_119 rfl ?_
    refine wq_icmp_ge (pc := 121) (tgt := 128) dM_partOf_121 (by decide) (fun c5 => ?_) (fun c5 => ?_)
    · have H := H.1 c5
      obtain ⟨s6, H⟩ := H
      refine wq_iconst (pc := 128) dM_partOf_128 rfl ?_
      refine wq_iadd (pc := 129) dM_partOf_129 ?_
      refine wq_re (x := (wr (wr (Int.tdiv (x1 * gI M 93 x3) x2) + 0))) (y := (Int.tdiv (x1 * gI M 93 x3) x2)) (by (try simp only [wr_al, wr_ar, wr_sl, wr_sr, wr_ml, wr_mr, wr_nn, wr_ww]); exact Eq.trans (wr_eq (by omega) (by omega)) (by omega)) ?_
      refine wq_ireturn (pc := 130) dM_partOf_130 trivial ?_
      exact H
    · have H := H.2 c5
      obtain ⟨s7, H⟩ := H
      refine wq_iconst (pc := 124) dM_partOf_124 rfl ?_
      refine wq_goto (pc := 125) (tgt := 129) dM_partOf_125 (by decide) ?_
      refine wq_iadd (pc := 129) dM_partOf_129 ?_
      refine wq_re (x := (wr (wr (Int.tdiv (x1 * gI M 93 x3) x2) + 1))) (y := (Int.tdiv (x1 * gI M 93 x3) x2 + 1)) (by (try simp only [wr_al, wr_ar, wr_sl, wr_sr, wr_ml, wr_mr, wr_nn, wr_ww]); exact Eq.trans (wr_eq (by omega) (by omega)) (by omega)) ?_
      refine wq_ireturn (pc := 130) dM_partOf_130 trivial ?_
      exact H
  · have H := H.2 c1
    obtain ⟨⟨s8, s9, s10, s11⟩, H⟩ := H
    refine wq_iload_n (pc := 58) dM_partOf_58 rfl rfl ?_
    refine wq_aload_n (pc := 59) dM_partOf_59 rfl rfl ?_
    refine wq_getR (pc := 60) (z := 15) (b := 93) dM_partOf_60 fO_M_46 sh_80 rfl rfl (rf_80_15 hS) ?_
    refine wq_iload (pc := 63) dM_partOf_63 rfl ?_
    refine wq_iald (pc := 65) dM_partOf_65 sh_93 s8.1 s8.2 ?_
    refine wq_imul (pc := 66) dM_partOf_66 ?_
    refine wq_iload_n (pc := 67) dM_partOf_67 rfl rfl ?_
    refine wq_re2 (x := (wr (x1 * gI M 93 x7))) (y := (x1 * gI M 93 x7)) (Eq.trans (wr_eq (by omega) (by omega)) (by omega)) ?_
    refine wq_irem (pc := 68) dM_partOf_68 s10 ?_
    refine wq_re (x := (wr (Int.tmod (x1 * gI M 93 x7) x2))) (y := (Int.tmod (x1 * gI M 93 x7) x2)) (Eq.trans (wr_eq (by omega) (by omega)) (by omega)) ?_
    refine wq_istore (pc := 69) (lo' := [iR 80, iI x1, iI x2, iI x3, iI x4, iI x5, iI x6, iI x7, iI (Int.tmod (x1 * gI M 93 x7) x2)]) dM_partOf_69 rfl rfl ?_
    refine wq_iload (pc := 71) dM_partOf_71 rfl ?_
    refine wq_iload (pc := 73) dM_partOf_73 rfl ?_
    refine wq_iload (pc := 75) dM_partOf_75 rfl ?_
    refine wq_icmp_gt (pc := 77) (tgt := 93) dM_partOf_77 (by decide) (fun c12 => ?_) (fun c12 => ?_)
    · have H := H.1 c12
      obtain ⟨⟨s13, s14⟩, H⟩ := H
      refine wq_iconst (pc := 93) dM_partOf_93 rfl ?_
      refine wq_goto (pc := 94) (tgt := 98) dM_partOf_94 (by decide) ?_
      refine wq_iadd (pc := 98) dM_partOf_98 ?_
      refine wq_re (x := (wr (x6 + 1))) (y := (x6 + 1)) (Eq.trans (wr_eq (by omega) (by omega)) (by omega)) ?_
      refine wq_istore (pc := 99) (lo' := [iR 80, iI x1, iI x2, iI x3, iI x4, iI x5, iI (x6 + 1), iI x7, iI (Int.tmod (x1 * gI M 93 x7) x2)]) dM_partOf_99 rfl rfl ?_
      refine wq_iinc (pc := 101) (lo' := [iR 80, iI x1, iI x2, iI x3, iI x4, iI x5, iI (x6 + 1), iI (x7 + 1), iI (Int.tmod (x1 * gI M 93 x7) x2)]) dM_partOf_101 rfl rfl (by rw [show wr (x7 + 1) = x7 + 1 from (Eq.trans (wr_eq (by omega) (by omega)) (by omega))]; rfl) ?_
      refine wq_goto (pc := 104) (tgt := 52) dM_partOf_104 (by decide) ?_
      refine wq_drop [8] (lo' := [iR 80, iI x1, iI x2, iI x3, iI x4, iI x5, iI (x6 + 1), iI (x7 + 1), none]) rfl ?_
      exact H
    · have H := H.2 c12
      refine wq_iload (pc := 80) dM_partOf_80 rfl ?_
      refine wq_iload (pc := 82) dM_partOf_82 rfl ?_
      refine wq_icmp_ne (pc := 84) (tgt := 97) dM_partOf_84 (by decide) (fun c15 => ?_) (fun c15 => ?_)
      · have H := H.1 c15
        obtain ⟨⟨s16, s17⟩, H⟩ := H
        refine wq_iconst (pc := 97) dM_partOf_97 rfl ?_
        refine wq_iadd (pc := 98) dM_partOf_98 ?_
        refine wq_re (x := (wr (x6 + 0))) (y := x6) (Eq.trans (wr_eq (by omega) (by omega)) (by omega)) ?_
        refine wq_istore (pc := 99) (lo' := [iR 80, iI x1, iI x2, iI x3, iI x4, iI x5, iI x6, iI x7, iI (Int.tmod (x1 * gI M 93 x7) x2)]) dM_partOf_99 rfl rfl ?_
        refine wq_iinc (pc := 101) (lo' := [iR 80, iI x1, iI x2, iI x3, iI x4, iI x5, iI x6, iI (x7 + 1), iI (Int.tmod (x1 * gI M 93 x7) x2)]) dM_partOf_101 rfl rfl (by rw [show wr (x7 + 1) = x7 + 1 from (Eq.trans (wr_eq (by omega) (by omega)) (by omega))]; rfl) ?_
        refine wq_goto (pc := 104) (tgt := 52) dM_partOf_104 (by decide) ?_
        refine wq_drop [8] (lo' := [iR 80, iI x1, iI x2, iI x3, iI x4, iI x5, iI x6, iI (x7 + 1), none]) rfl ?_
        exact H
      · have H := H.2 c15
        refine wq_iload (pc := 87) dM_partOf_87 rfl ?_
        refine wq_iload_n (pc := 89) dM_partOf_89 rfl rfl ?_
        refine wq_icmp_ge (pc := 90) (tgt := 97) dM_partOf_90 (by decide) (fun c18 => ?_) (fun c18 => ?_)
        · have H := H.1 c18
          obtain ⟨⟨s19, s20⟩, H⟩ := H
          refine wq_iconst (pc := 97) dM_partOf_97 rfl ?_
          refine wq_iadd (pc := 98) dM_partOf_98 ?_
          refine wq_re (x := (wr (x6 + 0))) (y := x6) (Eq.trans (wr_eq (by omega) (by omega)) (by omega)) ?_
          refine wq_istore (pc := 99) (lo' := [iR 80, iI x1, iI x2, iI x3, iI x4, iI x5, iI x6, iI x7, iI (Int.tmod (x1 * gI M 93 x7) x2)]) dM_partOf_99 rfl rfl ?_
          refine wq_iinc (pc := 101) (lo' := [iR 80, iI x1, iI x2, iI x3, iI x4, iI x5, iI x6, iI (x7 + 1), iI (Int.tmod (x1 * gI M 93 x7) x2)]) dM_partOf_101 rfl rfl (by rw [show wr (x7 + 1) = x7 + 1 from (Eq.trans (wr_eq (by omega) (by omega)) (by omega))]; rfl) ?_
          refine wq_goto (pc := 104) (tgt := 52) dM_partOf_104 (by decide) ?_
          refine wq_drop [8] (lo' := [iR 80, iI x1, iI x2, iI x3, iI x4, iI x5, iI x6, iI (x7 + 1), none]) rfl ?_
          exact H
        · have H := H.2 c18
          obtain ⟨⟨s21, s22⟩, H⟩ := H
          refine wq_iconst (pc := 93) dM_partOf_93 rfl ?_
          refine wq_goto (pc := 94) (tgt := 98) dM_partOf_94 (by decide) ?_
          refine wq_iadd (pc := 98) dM_partOf_98 ?_
          refine wq_re (x := (wr (x6 + 1))) (y := (x6 + 1)) (Eq.trans (wr_eq (by omega) (by omega)) (by omega)) ?_
          refine wq_istore (pc := 99) (lo' := [iR 80, iI x1, iI x2, iI x3, iI x4, iI x5, iI (x6 + 1), iI x7, iI (Int.tmod (x1 * gI M 93 x7) x2)]) dM_partOf_99 rfl rfl ?_
          refine wq_iinc (pc := 101) (lo' := [iR 80, iI x1, iI x2, iI x3, iI x4, iI x5, iI (x6 + 1), iI (x7 + 1), iI (Int.tmod (x1 * gI M 93 x7) x2)]) dM_partOf_101 rfl rfl (by rw [show wr (x7 + 1) = x7 + 1 from (Eq.trans (wr_eq (by omega) (by omega)) (by omega))]; rfl) ?_
          refine wq_goto (pc := 104) (tgt := 52) dM_partOf_104 (by decide) ?_
          refine wq_drop [8] (lo' := [iR 80, iI x1, iI x2, iI x3, iI x4, iI x5, iI (x6 + 1), iI (x7 + 1), none]) rfl ?_
          exact H
