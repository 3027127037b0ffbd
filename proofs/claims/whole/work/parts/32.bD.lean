set_option maxRecDepth 20000 in
theorem B_D_as_0 {x1 x2 : Int} {M : Mm} {Q : Mm → Option Mv → Prop} (hS : RefOK M) (H : ((0 ≤ x1 ∧ x1 < gI M 5 6 → ((0 ≤ x2 ∧ x2 ≤ 5 → ((0 ≤ x1 ∧ x1 < 16) ∧ Wq 3 0 0 mD_isUnder 0 [iI (gI M 6 x1), iI x2, none, none] [] M (fun M' v => Wq 4 0 0 mD_as 40 [iR 0, iI x1, iI x2, iR 5] (v.toList ++ []) M' Q))) ∧ (¬ (0 ≤ x2 ∧ x2 ≤ 5) → Q (sI M 69 1 (wr (gI M 69 1 + 1))) (some (vI (-1000001)))))) ∧ (¬ (0 ≤ x1 ∧ x1 < gI M 5 6) → Q (sI M 69 1 (wr (gI M 69 1 + 1))) (some (vI (-1000001)))))) : Wq 4 0 0 mD_as 0 [iR 0, iI x1, iI x2, none] [] M Q := by
  refine wq_aload_n (pc := 0) dD_as_0 rfl rfl ?_
  refine wq_getR (pc := 1) (z := 0) (b := 1) dD_as_1 fO_D_12 sh_0 rfl rfl (rf_0_0 hS) ?_
  refine wq_getR (pc := 4) (z := 1) (b := 5) dD_as_4 fO_D_74 sh_1 rfl rfl (rf_1_1 hS) ?_
  refine wq_astore_n (pc := 7) (lo' := [iR 0, iI x1, iI x2, iR 5]) dD_as_7 rfl rfl rfl ?_
  refine wq_aload_n (pc := 8) dD_as_8 rfl rfl ?_
  refine wq_iload_n (pc := 9) dD_as_9 rfl rfl ?_
  refine wq_callV (d' := 1) (pc := 10) (as := [vI x1]) (rest := []) (lo' := [iR 5, iI x1]) dD_as_10 mO_W_has lV_D_88 sh_5 (by decide) cl_9 rfl rfl rfl rfl rfl rfl ?_
  refine sp_W_has (fun c1 => ?_) (fun c1 => ?_)
  · have H := H.1 c1
    show Wq 4 0 0 mD_as 13 [iR 0, iI x1, iI x2, iR 5] [vI 1] M _
    refine wq_if_eq (pc := 13) (tgt := 23) dD_as_13 (by decide) (fun q => absurd q (by decide)) (fun _ => ?_)
    refine wq_iload_n (pc := 16) dD_as_16 rfl rfl ?_
    refine wq_callS (d' := 2) (pc := 17) (as := [vI x2]) (rest := []) (lo' := [iI x2]) dD_as_17 mO_D_isKind lS_D_61 rfl rfl rfl rfl rfl rfl ?_
    refine sp_D_isKind (fun c2 => ?_) (fun c2 => ?_)
    · have H := H.1 c2
      show Wq 4 0 0 mD_as 20 [iR 0, iI x1, iI x2, iR 5] [vI 1] M _
      obtain ⟨s3, H⟩ := H
      refine wq_if_ne (pc := 20) (tgt := 30) dD_as_20 (by decide) (fun _ => ?_) (fun q => absurd q (by decide))
      refine wq_aload_n (pc := 30) dD_as_30 rfl rfl ?_
      refine wq_getR (pc := 31) (z := 0) (b := 6) dD_as_31 fO_D_91 sh_5 rfl rfl (rf_5_0 hS) ?_
      refine wq_iload_n (pc := 34) dD_as_34 rfl rfl ?_
      refine wq_iald (pc := 35) dD_as_35 sh_6 s3.1 s3.2 ?_
      refine wq_iload_n (pc := 36) dD_as_36 rfl rfl ?_
      refine wq_callS (d' := 3) (pc := 37) (as := [vI (gI M 6 x1), vI x2]) (rest := []) (lo' := [iI (gI M 6 x1), iI x2, none, none]) dD_as_37 mO_D_isUnder lS_D_94 rfl rfl rfl rfl rfl rfl ?_
      exact H
    · have H := H.2 c2
      show Wq 4 0 0 mD_as 20 [iR 0, iI x1, iI x2, iR 5] [vI 0] M _
      refine wq_if_ne (pc := 20) (tgt := 30) dD_as_20 (by decide) (fun q => absurd q (by decide)) (fun _ => ?_)
      refine wq_aload_n (pc := 23) dD_as_23 rfl rfl ?_
      refine wq_ldc (pc := 24) (z := (-1000001)) dD_as_24 kO_D_69 (by decide) ?_
      refine wq_callV (d' := 2) (pc := 26) (as := [vI (-1000001)]) (rest := []) (lo' := [iR 0, iI ((-1000001)), none]) dD_as_26 mO_D_finding lV_D_70 sh_0 (by decide) cl_10 rfl rfl rfl rfl rfl rfl ?_
      refine sp_D_finding (k := 1) (by decide) (by decide) (by decide) hS ?_
      show Wq 4 0 0 mD_as 29 [iR 0, iI x1, iI x2, iR 5] [vI (-1000001)] (sI M 69 1 (wr (gI M 69 1 + 1))) _
      refine wq_ireturn (pc := 29) dD_as_29 trivial ?_
      exact H
  · have H := H.2 c1
    show Wq 4 0 0 mD_as 13 [iR 0, iI x1, iI x2, iR 5] [vI 0] M _
    refine wq_if_eq (pc := 13) (tgt := 23) dD_as_13 (by decide) (fun _ => ?_) (fun q => absurd (by decide) q)
    refine wq_aload_n (pc := 23) dD_as_23 rfl rfl ?_
    refine wq_ldc (pc := 24) (z := (-1000001)) dD_as_24 kO_D_69 (by decide) ?_
    refine wq_callV (d' := 2) (pc := 26) (as := [vI (-1000001)]) (rest := []) (lo' := [iR 0, iI ((-1000001)), none]) dD_as_26 mO_D_finding lV_D_70 sh_0 (by decide) cl_10 rfl rfl rfl rfl rfl rfl ?_
    refine sp_D_finding (k := 1) (by decide) (by decide) (by decide) hS ?_
    show Wq 4 0 0 mD_as 29 [iR 0, iI x1, iI x2, iR 5] [vI (-1000001)] (sI M 69 1 (wr (gI M 69 1 + 1))) _
    refine wq_ireturn (pc := 29) dD_as_29 trivial ?_
    exact H

set_option maxRecDepth 20000 in
theorem B_D_as_40 {x1 x2 y0 : Int} {M : Mm} {Q : Mm → Option Mv → Prop} (hS : RefOK M) (H : ((¬ y0 = 0 → ((0 ≤ x1 ∧ x1 < 16) ∧ Q M (some (vI (gI M 7 x1))))) ∧ (y0 = 0 → Q (sI M 69 5 (wr (gI M 69 5 + 1))) (some (vI (-1000005)))))) : Wq 4 0 0 mD_as 40 [iR 0, iI x1, iI x2, iR 5] [vI y0] M Q := by
  refine wq_if_ne (pc := 40) (tgt := 50) dD_as_40 (by decide) (fun c1 => ?_) (fun c1 => ?_)
  · have H := H.1 c1
    obtain ⟨s2, H⟩ := H
    refine wq_aload_n (pc := 50) dD_as_50 rfl rfl ?_
    refine wq_getR (pc := 51) (z := 1) (b := 7) dD_as_51 fO_D_99 sh_5 rfl rfl (rf_5_1 hS) ?_
    refine wq_iload_n (pc := 54) dD_as_54 rfl rfl ?_
    refine wq_iald (pc := 55) dD_as_55 sh_7 s2.1 s2.2 ?_
    refine wq_ireturn (pc := 56) dD_as_56 trivial ?_
    exact H
  · have H := H.2 c1
    refine wq_aload_n (pc := 43) dD_as_43 rfl rfl ?_
    refine wq_ldc (pc := 44) (z := (-1000005)) dD_as_44 kO_D_98 (by decide) ?_
    refine wq_callV (d' := 2) (pc := 46) (as := [vI (-1000005)]) (rest := []) (lo' := [iR 0, iI ((-1000005)), none]) dD_as_46 mO_D_finding lV_D_70 sh_0 (by decide) cl_10 rfl rfl rfl rfl rfl rfl ?_
    refine sp_D_finding (k := 5) (by decide) (by decide) (by decide) hS ?_
    show Wq 4 0 0 mD_as 49 [iR 0, iI x1, iI x2, iR 5] [vI (-1000005)] (sI M 69 5 (wr (gI M 69 5 + 1))) _
    refine wq_ireturn (pc := 49) dD_as_49 trivial ?_
    exact H
set_option maxRecDepth 20000 in
theorem B_D_isUnder_0 {x0 x1 : Int} {M : Mm} {Q : Mm → Option Mv → Prop} (H : Wq 3 0 0 mD_isUnder 4 [iI x0, iI x1, iI x0, iI 0] [] M Q) : Wq 3 0 0 mD_isUnder 0 [iI x0, iI x1, none, none] [] M Q := by
  refine wq_iload_n (pc := 0) dD_isUnder_0 rfl rfl ?_
  refine wq_istore_n (pc := 1) (lo' := [iI x0, iI x1, iI x0, none]) dD_isUnder_1 rfl rfl rfl ?_
  refine wq_iconst (pc := 2) dD_isUnder_2 rfl ?_
  refine wq_istore_n (pc := 3) (lo' := [iI x0, iI x1, iI x0, iI 0]) dD_isUnder_3 rfl rfl rfl ?_
  exact H

set_option maxRecDepth 20000 in
theorem B_D_isUnder_4 {x0 x1 x2 x3 : Int} {M : Mm} {Q : Mm → Option Mv → Prop} (H : ((6 ≤ x3 → Q M (some (vI 0))) ∧ (¬ 6 ≤ x3 → ((0 ≤ x2 ∧ x2 ≤ 5 → ((¬ x2 = x1 → (((0 ≤ x2 ∧ x2 < 6) ∧ (-2147483648 ≤ x3 + 1 ∧ x3 + 1 < 2147483648)) ∧ Wq 3 0 0 mD_isUnder 4 [iI x0, iI x1, iI (gI M 1001 x2), iI (x3 + 1)] [] M Q)) ∧ (x2 = x1 → Q M (some (vI 1))))) ∧ (¬ (0 ≤ x2 ∧ x2 ≤ 5) → Q M (some (vI 0))))))) : Wq 3 0 0 mD_isUnder 4 [iI x0, iI x1, iI x2, iI x3] [] M Q := by
  refine wq_iload_n (pc := 4) dD_isUnder_4 rfl rfl ?_
  refine wq_bipush (pc := 5) dD_isUnder_5 rfl ?_
  refine wq_icmp_ge (pc := 7) (tgt := 36) dD_isUnder_7 (by decide) (fun c1 => ?_) (fun c1 => ?_)
  · have H := H.1 c1
    refine wq_iconst (pc := 36) dD_isUnder_36 rfl ?_
    refine wq_ireturn (pc := 37) dD_isUnder_37 (Or.inl rfl) ?_
    exact H
  · have H := H.2 c1
    refine wq_iload_n (pc := 10) dD_isUnder_10 rfl rfl ?_
    refine wq_callS (d' := 2) (pc := 11) (as := [vI x2]) (rest := []) (lo' := [iI x2]) dD_isUnder_11 mO_D_isKind lS_D_61 rfl rfl rfl rfl rfl rfl ?_
    refine sp_D_isKind (fun c2 => ?_) (fun c2 => ?_)
    · have H := H.1 c2
      show Wq 3 0 0 mD_isUnder 14 [iI x0, iI x1, iI x2, iI x3] [vI 1] M _
      refine wq_if_eq (pc := 14) (tgt := 36) dD_isUnder_14 (by decide) (fun q => absurd q (by decide)) (fun _ => ?_)
      refine wq_iload_n (pc := 17) dD_isUnder_17 rfl rfl ?_
      refine wq_iload_n (pc := 18) dD_isUnder_18 rfl rfl ?_
      refine wq_icmp_ne (pc := 19) (tgt := 24) dD_isUnder_19 (by decide) (fun c3 => ?_) (fun c3 => ?_)
      · have H := H.1 c3
        obtain ⟨⟨s4, s5⟩, H⟩ := H
        refine wq_above (pc := 24) dD_isUnder_24 (Or.inl sO_D_345) ?_
        refine wq_iload_n (pc := 27) dD_isUnder_27 rfl rfl ?_
        refine wq_iald (pc := 28) dD_isUnder_28 sh_1001 s4.1 s4.2 ?_
        refine wq_istore_n (pc := 29) (lo' := [iI x0, iI x1, iI (gI M 1001 x2), iI x3]) dD_isUnder_29 rfl rfl rfl ?_
        refine wq_iinc (pc := 30) (lo' := [iI x0, iI x1, iI (gI M 1001 x2), iI (x3 + 1)]) dD_isUnder_30 rfl rfl (by rw [show wr (x3 + 1) = x3 + 1 from (Eq.trans (wr_eq (by omega) (by omega)) (by omega))]; rfl) ?_
        refine wq_goto (pc := 33) (tgt := 4) dD_isUnder_33 (by decide) ?_
        exact H
      · have H := H.2 c3
        refine wq_iconst (pc := 22) dD_isUnder_22 rfl ?_
        refine wq_ireturn (pc := 23) dD_isUnder_23 (Or.inr rfl) ?_
        exact H
    · have H := H.2 c2
      show Wq 3 0 0 mD_isUnder 14 [iI x0, iI x1, iI x2, iI x3] [vI 0] M _
      refine wq_if_eq (pc := 14) (tgt := 36) dD_isUnder_14 (by decide) (fun _ => ?_) (fun q => absurd (by decide) q)
      refine wq_iconst (pc := 36) dD_isUnder_36 rfl ?_
      refine wq_ireturn (pc := 37) dD_isUnder_37 (Or.inl rfl) ?_
      exact H
set_option maxRecDepth 20000 in
theorem B_M_as_0 {x1 x2 : Int} {M : Mm} {Q : Mm → Option Mv → Prop} (hS : RefOK M) (H : (0 ≤ gI M 81 2 ∧ ((0 ≤ x1 ∧ x1 < gI M 81 2 → ((0 ≤ x2 ∧ x2 ≤ 5 → ((0 ≤ 10 + 3 * x1 ∧ 10 + 3 * x1 < 1993) ∧ Wq 3 0 0 mM_as 34 [iR 80, iI x1, iI x2, iI (gI M 81 (10 + 3 * x1))] [] M Q)) ∧ (¬ (0 ≤ x2 ∧ x2 ≤ 5) → Q (sI M 83 1 (wr (gI M 83 1 + 1))) (some (vI (-1000001)))))) ∧ (¬ (0 ≤ x1 ∧ x1 < gI M 81 2) → Q (sI M 83 1 (wr (gI M 83 1 + 1))) (some (vI (-1000001))))))) : Wq 3 0 0 mM_as 0 [iR 80, iI x1, iI x2, none] [] M Q := by
  obtain ⟨s1, H⟩ := H
  refine wq_aload_n (pc := 0) dM_as_0 rfl rfl ?_
  refine wq_iload_n (pc := 1) dM_as_1 rfl rfl ?_
  refine wq_iconst (pc := 2) dM_as_2 rfl ?_
  refine wq_callV (d' := 2) (pc := 3) (as := [vI x1, vI 2]) (rest := []) (lo' := [iR 80, iI x1, iI 2]) dM_as_3 mO_M_is lV_M_84 sh_80 (by decide) cl_11 rfl rfl rfl rfl rfl rfl ?_
  refine sp_M_is (c := 2) (by decide) hS s1 (fun c2 => ?_) (fun c2 => ?_)
  · have H := H.1 c2
    show Wq 3 0 0 mM_as 6 [iR 80, iI x1, iI x2, none] [vI 1] M _
    refine wq_if_eq (pc := 6) (tgt := 21) dM_as_6 (by decide) (fun q => absurd q (by decide)) (fun _ => ?_)
    refine wq_iload_n (pc := 9) dM_as_9 rfl rfl ?_
    refine wq_i2l (pc := 10) dM_as_10 ?_
    refine wq_lconst (pc := 11) (x := 0) dM_as_11 rfl rfl ?_
    refine wq_ldc2 (pc := 12) (z := 5) dM_as_12 kO_M_74 (by decide) ?_
    refine wq_callS (d' := 1) (pc := 15) (as := [vL x2, vL 0, vL 5]) (rest := []) (lo' := [iL x2, none, iL 0, none, iL 5, none]) dM_as_15 mO_M_within lS_M_68 rfl rfl rfl rfl rfl rfl ?_
    refine sp_M_within (fun c3 => ?_) (fun c3 => ?_)
    · have H := H.1 c3
      show Wq 3 0 0 mM_as 18 [iR 80, iI x1, iI x2, none] [vI 1] M _
      obtain ⟨s4, H⟩ := H
      refine wq_if_ne (pc := 18) (tgt := 28) dM_as_18 (by decide) (fun _ => ?_) (fun q => absurd q (by decide))
      refine wq_aload_n (pc := 28) dM_as_28 rfl rfl ?_
      refine wq_iload_n (pc := 29) dM_as_29 rfl rfl ?_
      refine wq_callV (d' := 1) (pc := 30) (as := [vI x1]) (rest := []) (lo' := [iR 80, iI x1]) dM_as_30 mO_M_kindOf lV_M_88 sh_80 (by decide) cl_11 rfl rfl rfl rfl rfl rfl ?_
      refine sp_M_kindOf hS s4 ?_
      show Wq 3 0 0 mM_as 33 [iR 80, iI x1, iI x2, none] [vI (gI M 81 (10 + 3 * x1))] M _
      refine wq_istore_n (pc := 33) (lo' := [iR 80, iI x1, iI x2, iI (gI M 81 (10 + 3 * x1))]) dM_as_33 rfl rfl rfl ?_
      exact H
    · have H := H.2 c3
      show Wq 3 0 0 mM_as 18 [iR 80, iI x1, iI x2, none] [vI 0] M _
      refine wq_if_ne (pc := 18) (tgt := 28) dM_as_18 (by decide) (fun q => absurd q (by decide)) (fun _ => ?_)
      refine wq_aload_n (pc := 21) dM_as_21 rfl rfl ?_
      refine wq_ldc (pc := 22) (z := (-1000001)) dM_as_22 kO_M_78 (by decide) ?_
      refine wq_callV (d' := 1) (pc := 24) (as := [vI (-1000001)]) (rest := []) (lo' := [iR 80, iI ((-1000001))]) dM_as_24 mO_M_finding lV_M_79 sh_80 (by decide) cl_11 rfl rfl rfl rfl rfl rfl ?_
      refine sp_M_finding (k := 1) (by decide) (by decide) (by decide) hS ?_
      show Wq 3 0 0 mM_as 27 [iR 80, iI x1, iI x2, none] [vI (-1000001)] (sI M 83 1 (wr (gI M 83 1 + 1))) _
      refine wq_ireturn (pc := 27) dM_as_27 trivial ?_
      exact H
  · have H := H.2 c2
    show Wq 3 0 0 mM_as 6 [iR 80, iI x1, iI x2, none] [vI 0] M _
    refine wq_if_eq (pc := 6) (tgt := 21) dM_as_6 (by decide) (fun _ => ?_) (fun q => absurd (by decide) q)
    refine wq_aload_n (pc := 21) dM_as_21 rfl rfl ?_
    refine wq_ldc (pc := 22) (z := (-1000001)) dM_as_22 kO_M_78 (by decide) ?_
    refine wq_callV (d' := 1) (pc := 24) (as := [vI (-1000001)]) (rest := []) (lo' := [iR 80, iI ((-1000001))]) dM_as_24 mO_M_finding lV_M_79 sh_80 (by decide) cl_11 rfl rfl rfl rfl rfl rfl ?_
    refine sp_M_finding (k := 1) (by decide) (by decide) (by decide) hS ?_
    show Wq 3 0 0 mM_as 27 [iR 80, iI x1, iI x2, none] [vI (-1000001)] (sI M 83 1 (wr (gI M 83 1 + 1))) _
    refine wq_ireturn (pc := 27) dM_as_27 trivial ?_
    exact H

set_option maxRecDepth 20000 in
theorem B_M_as_34 {x1 x2 x3 : Int} {M : Mm} {Q : Mm → Option Mv → Prop} (hS : RefOK M) (H : ((x3 < 0 → ((0 ≤ x3 → ((0 ≤ 11 + 3 * x1 ∧ 11 + 3 * x1 < 1993) ∧ Q M (some (vI (gI M 81 (11 + 3 * x1)))))) ∧ (¬ 0 ≤ x3 → Q (sI M 83 5 (wr (gI M 83 5 + 1))) (some (vI (-1000005)))))) ∧ (¬ x3 < 0 → ((x3 = x2 → ((0 ≤ x3 → ((0 ≤ 11 + 3 * x1 ∧ 11 + 3 * x1 < 1993) ∧ Q M (some (vI (gI M 81 (11 + 3 * x1)))))) ∧ (¬ 0 ≤ x3 → Q (sI M 83 5 (wr (gI M 83 5 + 1))) (some (vI (-1000005)))))) ∧ (¬ x3 = x2 → Wq 3 0 0 mM_as 34 [iR 80, iI x1, iI x2, iI (aboveF x3)] [] M Q))))) : Wq 3 0 0 mM_as 34 [iR 80, iI x1, iI x2, iI x3] [] M Q := by
  refine wq_iload_n (pc := 34) dM_as_34 rfl rfl ?_
  refine wq_if_lt (pc := 35) (tgt := 51) dM_as_35 (by decide) (fun c1 => ?_) (fun c1 => ?_)
  · have H := H.1 c1
    refine wq_iload_n (pc := 51) dM_as_51 rfl rfl ?_
    refine wq_if_ge (pc := 52) (tgt := 64) dM_as_52 (by decide) (fun c2 => ?_) (fun c2 => ?_)
    · have H := H.1 c2
      obtain ⟨s3, H⟩ := H
      refine wq_aload_n (pc := 64) dM_as_64 rfl rfl ?_
      refine wq_iload_n (pc := 65) dM_as_65 rfl rfl ?_
      refine wq_callV (d' := 1) (pc := 66) (as := [vI x1]) (rest := []) (lo' := [iR 80, iI x1]) dM_as_66 mO_M_longOf lV_M_95 sh_80 (by decide) cl_11 rfl rfl rfl rfl rfl rfl ?_
      refine sp_M_longOf hS s3 ?_
      show Wq 3 0 0 mM_as 69 [iR 80, iI x1, iI x2, iI x3] [vI (gI M 81 (11 + 3 * x1))] M _
      refine wq_ireturn (pc := 69) dM_as_69 trivial ?_
      exact H
    · have H := H.2 c2
      refine wq_aload_n (pc := 55) dM_as_55 rfl rfl ?_
      refine wq_ldc (pc := 56) (z := (-1000005)) dM_as_56 kO_M_94 (by decide) ?_
      refine wq_callV (d' := 1) (pc := 58) (as := [vI (-1000005)]) (rest := []) (lo' := [iR 80, iI ((-1000005))]) dM_as_58 mO_M_finding lV_M_79 sh_80 (by decide) cl_11 rfl rfl rfl rfl rfl rfl ?_
      refine sp_M_finding (k := 5) (by decide) (by decide) (by decide) hS ?_
      show Wq 3 0 0 mM_as 61 [iR 80, iI x1, iI x2, iI x3] [vI (-1000005)] (sI M 83 5 (wr (gI M 83 5 + 1))) _
      refine wq_goto (pc := 61) (tgt := 69) dM_as_61 (by decide) ?_
      refine wq_ireturn (pc := 69) dM_as_69 trivial ?_
      exact H
  · have H := H.2 c1
    refine wq_iload_n (pc := 38) dM_as_38 rfl rfl ?_
    refine wq_iload_n (pc := 39) dM_as_39 rfl rfl ?_
    refine wq_icmp_eq (pc := 40) (tgt := 51) dM_as_40 (by decide) (fun c4 => ?_) (fun c4 => ?_)
    · have H := H.1 c4
      refine wq_iload_n (pc := 51) dM_as_51 rfl rfl ?_
      refine wq_if_ge (pc := 52) (tgt := 64) dM_as_52 (by decide) (fun c5 => ?_) (fun c5 => ?_)
      · have H := H.1 c5
        obtain ⟨s6, H⟩ := H
        refine wq_aload_n (pc := 64) dM_as_64 rfl rfl ?_
        refine wq_iload_n (pc := 65) dM_as_65 rfl rfl ?_
        refine wq_callV (d' := 1) (pc := 66) (as := [vI x1]) (rest := []) (lo' := [iR 80, iI x1]) dM_as_66 mO_M_longOf lV_M_95 sh_80 (by decide) cl_11 rfl rfl rfl rfl rfl rfl ?_
        refine sp_M_longOf hS s6 ?_
        show Wq 3 0 0 mM_as 69 [iR 80, iI x1, iI x2, iI x3] [vI (gI M 81 (11 + 3 * x1))] M _
        refine wq_ireturn (pc := 69) dM_as_69 trivial ?_
        exact H
      · have H := H.2 c5
        refine wq_aload_n (pc := 55) dM_as_55 rfl rfl ?_
        refine wq_ldc (pc := 56) (z := (-1000005)) dM_as_56 kO_M_94 (by decide) ?_
        refine wq_callV (d' := 1) (pc := 58) (as := [vI (-1000005)]) (rest := []) (lo' := [iR 80, iI ((-1000005))]) dM_as_58 mO_M_finding lV_M_79 sh_80 (by decide) cl_11 rfl rfl rfl rfl rfl rfl ?_
        refine sp_M_finding (k := 5) (by decide) (by decide) (by decide) hS ?_
        show Wq 3 0 0 mM_as 61 [iR 80, iI x1, iI x2, iI x3] [vI (-1000005)] (sI M 83 5 (wr (gI M 83 5 + 1))) _
        refine wq_goto (pc := 61) (tgt := 69) dM_as_61 (by decide) ?_
        refine wq_ireturn (pc := 69) dM_as_69 trivial ?_
        exact H
    · have H := H.2 c4
      refine wq_iload_n (pc := 43) dM_as_43 rfl rfl ?_
      refine wq_callS (d' := 1) (pc := 44) (as := [vI x3]) (rest := []) (lo' := [iI x3]) dM_as_44 mO_M_above lS_M_91 rfl rfl rfl rfl rfl rfl ?_
      refine sp_M_above ?_
      show Wq 3 0 0 mM_as 47 [iR 80, iI x1, iI x2, iI x3] [vI (aboveF x3)] M _
      refine wq_istore_n (pc := 47) (lo' := [iR 80, iI x1, iI x2, iI (aboveF x3)]) dM_as_47 rfl rfl rfl ?_
      refine wq_goto (pc := 48) (tgt := 34) dM_as_48 (by decide) ?_
      exact H
set_option maxRecDepth 20000 in
theorem B_D_known_0 {x1 : Int} {M : Mm} {Q : Mm → Option Mv → Prop} (hS : RefOK M) (H : ((0 ≤ x1 ∧ x1 ≤ 900 → Wq 1 0 0 mE_knownOn 0 [iR 12, iI x1, none, none] [] M (fun M' v => Wq 3 0 0 mD_known 18 [iR 0, iI x1] (v.toList ++ []) M' Q)) ∧ (¬ (0 ≤ x1 ∧ x1 ≤ 900) → Q (sI M 69 1 (wr (gI M 69 1 + 1))) (some (vI (-1000001)))))) : Wq 3 0 0 mD_known 0 [iR 0, iI x1] [] M Q := by
  refine wq_iload_n (pc := 0) dD_known_0 rfl rfl ?_
  refine wq_callS (d' := 2) (pc := 1) (as := [vI x1]) (rest := []) (lo' := [iI x1]) dD_known_1 mO_D_isDay lS_D_180 rfl rfl rfl rfl rfl rfl ?_
  refine sp_D_isDay (fun c1 => ?_) (fun c1 => ?_)
  · have H := H.1 c1
    show Wq 3 0 0 mD_known 4 [iR 0, iI x1] [vI 1] M _
    refine wq_if_eq (pc := 4) (tgt := 21) dD_known_4 (by decide) (fun q => absurd q (by decide)) (fun _ => ?_)
    refine wq_aload_n (pc := 7) dD_known_7 rfl rfl ?_
    refine wq_getR (pc := 8) (z := 0) (b := 1) dD_known_8 fO_D_12 sh_0 rfl rfl (rf_0_0 hS) ?_
    refine wq_getR (pc := 11) (z := 2) (b := 12) dD_known_11 fO_D_148 sh_1 rfl rfl (rf_1_2 hS) ?_
    refine wq_iload_n (pc := 14) dD_known_14 rfl rfl ?_
    refine wq_callV (d' := 1) (pc := 15) (as := [vI x1]) (rest := []) (lo' := [iR 12, iI x1, none, none]) dD_known_15 mO_E_knownOn lV_D_183 sh_12 (by decide) cl_2 rfl rfl rfl rfl rfl rfl ?_
    exact H
  · have H := H.2 c1
    show Wq 3 0 0 mD_known 4 [iR 0, iI x1] [vI 0] M _
    refine wq_if_eq (pc := 4) (tgt := 21) dD_known_4 (by decide) (fun _ => ?_) (fun q => absurd (by decide) q)
    refine wq_aload_n (pc := 21) dD_known_21 rfl rfl ?_
    refine wq_ldc (pc := 22) (z := (-1000001)) dD_known_22 kO_D_69 (by decide) ?_
    refine wq_callV (d' := 2) (pc := 24) (as := [vI (-1000001)]) (rest := []) (lo' := [iR 0, iI ((-1000001)), none]) dD_known_24 mO_D_finding lV_D_70 sh_0 (by decide) cl_10 rfl rfl rfl rfl rfl rfl ?_
    refine sp_D_finding (k := 1) (by decide) (by decide) (by decide) hS ?_
    show Wq 3 0 0 mD_known 27 [iR 0, iI x1] [vI (-1000001)] (sI M 69 1 (wr (gI M 69 1 + 1))) _
    refine wq_ireturn (pc := 27) dD_known_27 trivial ?_
    exact H

set_option maxRecDepth 20000 in
theorem B_D_known_18 {x1 y0 : Int} {M : Mm} {Q : Mm → Option Mv → Prop} (H : Q M (some (vI y0))) : Wq 3 0 0 mD_known 18 [iR 0, iI x1] [vI y0] M Q := by
  refine wq_goto (pc := 18) (tgt := 27) dD_known_18 (by decide) ?_
  refine wq_ireturn (pc := 27) dD_known_27 trivial ?_
  exact H
set_option maxRecDepth 20000 in
theorem B_M_known_0 {x1 : Int} {M : Mm} {Q : Mm → Option Mv → Prop} (hS : RefOK M) (H : ((0 ≤ x1 ∧ x1 ≤ 900 → Wq 2 0 0 mM_knownOn 0 [iR 80, iI x1, none, none, none] [] M (fun M' v => Wq 3 0 0 mM_known 12 [iR 80, iI x1] (v.toList ++ []) M' Q)) ∧ (¬ (0 ≤ x1 ∧ x1 ≤ 900) → Q (sI M 83 1 (wr (gI M 83 1 + 1))) (some (vI (-1000001)))))) : Wq 3 0 0 mM_known 0 [iR 80, iI x1] [] M Q := by
  refine wq_iload_n (pc := 0) dM_known_0 rfl rfl ?_
  refine wq_callS (d' := 2) (pc := 1) (as := [vI x1]) (rest := []) (lo' := [iI x1]) dM_known_1 mO_M_isDay lS_M_128 rfl rfl rfl rfl rfl rfl ?_
  refine sp_M_isDay (fun c1 => ?_) (fun c1 => ?_)
  · have H := H.1 c1
    show Wq 3 0 0 mM_known 4 [iR 80, iI x1] [vI 1] M _
    refine wq_if_eq (pc := 4) (tgt := 15) dM_known_4 (by decide) (fun q => absurd q (by decide)) (fun _ => ?_)
    refine wq_aload_n (pc := 7) dM_known_7 rfl rfl ?_
    refine wq_iload_n (pc := 8) dM_known_8 rfl rfl ?_
    refine wq_callV (d' := 2) (pc := 9) (as := [vI x1]) (rest := []) (lo' := [iR 80, iI x1, none, none, none]) dM_known_9 mO_M_knownOn lV_M_132 sh_80 (by decide) cl_11 rfl rfl rfl rfl rfl rfl ?_
    exact H
  · have H := H.2 c1
    show Wq 3 0 0 mM_known 4 [iR 80, iI x1] [vI 0] M _
    refine wq_if_eq (pc := 4) (tgt := 15) dM_known_4 (by decide) (fun _ => ?_) (fun q => absurd (by decide) q)
    refine wq_aload_n (pc := 15) dM_known_15 rfl rfl ?_
    refine wq_ldc (pc := 16) (z := (-1000001)) dM_known_16 kO_M_78 (by decide) ?_
    refine wq_callV (d' := 1) (pc := 18) (as := [vI (-1000001)]) (rest := []) (lo' := [iR 80, iI ((-1000001))]) dM_known_18 mO_M_finding lV_M_79 sh_80 (by decide) cl_11 rfl rfl rfl rfl rfl rfl ?_
    refine sp_M_finding (k := 1) (by decide) (by decide) (by decide) hS ?_
    show Wq 3 0 0 mM_known 21 [iR 80, iI x1] [vI (-1000001)] (sI M 83 1 (wr (gI M 83 1 + 1))) _
    refine wq_ireturn (pc := 21) dM_known_21 trivial ?_
    exact H

set_option maxRecDepth 20000 in
theorem B_M_known_12 {x1 y0 : Int} {M : Mm} {Q : Mm → Option Mv → Prop} (H : Q M (some (vI y0))) : Wq 3 0 0 mM_known 12 [iR 80, iI x1] [vI y0] M Q := by
  refine wq_goto (pc := 12) (tgt := 21) dM_known_12 (by decide) ?_
  refine wq_ireturn (pc := 21) dM_known_21 trivial ?_
  exact H
set_option maxRecDepth 20000 in
theorem B_E_knownOn_0 {x1 : Int} {M : Mm} {Q : Mm → Option Mv → Prop} (H : Wq 1 0 0 mE_knownOn 4 [iR 12, iI x1, iI 0, iI 0] [] M Q) : Wq 1 0 0 mE_knownOn 0 [iR 12, iI x1, none, none] [] M Q := by
  refine wq_iconst (pc := 0) dE_knownOn_0 rfl ?_
  refine wq_istore_n (pc := 1) (lo' := [iR 12, iI x1, iI 0, none]) dE_knownOn_1 rfl rfl rfl ?_
  refine wq_iconst (pc := 2) dE_knownOn_2 rfl ?_
  refine wq_istore_n (pc := 3) (lo' := [iR 12, iI x1, iI 0, iI 0]) dE_knownOn_3 rfl rfl rfl ?_
  exact H

set_option maxRecDepth 20000 in
theorem B_E_knownOn_4 {x1 x2 x3 : Int} {M : Mm} {Q : Mm → Option Mv → Prop} (hS : RefOK M) (H : ((gI M 12 7 ≤ x3 → Q M (some (vI x2))) ∧ (¬ gI M 12 7 ≤ x3 → ((0 ≤ x3 ∧ x3 < 20) ∧ ((x1 < gI M 18 x3 → ((-2147483648 ≤ x3 + 1 ∧ x3 + 1 < 2147483648) ∧ Wq 1 0 0 mE_knownOn 4 [iR 12, iI x1, iI x2, iI (x3 + 1)] [] M Q)) ∧ (¬ x1 < gI M 18 x3 → ((gI M 19 x3 < 0 → ((-2147483648 ≤ x3 + 1 ∧ x3 + 1 < 2147483648) ∧ Wq 1 0 0 mE_knownOn 4 [iR 12, iI x1, iI (bOr x2 (bShl 1 x3)), iI (x3 + 1)] [] M Q)) ∧ (¬ gI M 19 x3 < 0 → ((gI M 19 x3 ≤ x1 → ((-2147483648 ≤ x3 + 1 ∧ x3 + 1 < 2147483648) ∧ Wq 1 0 0 mE_knownOn 4 [iR 12, iI x1, iI x2, iI (x3 + 1)] [] M Q)) ∧ (¬ gI M 19 x3 ≤ x1 → ((-2147483648 ≤ x3 + 1 ∧ x3 + 1 < 2147483648) ∧ Wq 1 0 0 mE_knownOn 4 [iR 12, iI x1, iI (bOr x2 (bShl 1 x3)), iI (x3 + 1)] [] M Q))))))))))) : Wq 1 0 0 mE_knownOn 4 [iR 12, iI x1, iI x2, iI x3] [] M Q := by
  refine wq_iload_n (pc := 4) dE_knownOn_4 rfl rfl ?_
  refine wq_aload_n (pc := 5) dE_knownOn_5 rfl rfl ?_
  refine wq_getI (pc := 6) (z := 7) dE_knownOn_6 fO_E_33 sh_12 rfl rfl ?_
  refine wq_icmp_ge (pc := 9) (tgt := 53) dE_knownOn_9 (by decide) (fun c1 => ?_) (fun c1 => ?_)
  · have H := H.1 c1
    refine wq_iload_n (pc := 53) dE_knownOn_53 rfl rfl ?_
    refine wq_ireturn (pc := 54) dE_knownOn_54 trivial ?_
    exact H
  · have H := H.2 c1
    obtain ⟨s2, H⟩ := H
    refine wq_aload_n (pc := 12) dE_knownOn_12 rfl rfl ?_
    refine wq_getR (pc := 13) (z := 5) (b := 18) dE_knownOn_13 fO_E_27 sh_12 rfl rfl (rf_12_5 hS) ?_
    refine wq_iload_n (pc := 16) dE_knownOn_16 rfl rfl ?_
    refine wq_iald (pc := 17) dE_knownOn_17 sh_18 s2.1 s2.2 ?_
    refine wq_iload_n (pc := 18) dE_knownOn_18 rfl rfl ?_
    refine wq_icmp_gt (pc := 19) (tgt := 47) dE_knownOn_19 (by decide) (fun c3 => ?_) (fun c3 => ?_)
    · have H := H.1 c3
      obtain ⟨s4, H⟩ := H
      refine wq_iinc (pc := 47) (lo' := [iR 12, iI x1, iI x2, iI (x3 + 1)]) dE_knownOn_47 rfl rfl (by rw [show wr (x3 + 1) = x3 + 1 from (Eq.trans (wr_eq (by omega) (by omega)) (by omega))]; rfl) ?_
      refine wq_goto (pc := 50) (tgt := 4) dE_knownOn_50 (by decide) ?_
      exact H
    · have H := H.2 c3
      refine wq_aload_n (pc := 22) dE_knownOn_22 rfl rfl ?_
      refine wq_getR (pc := 23) (z := 6) (b := 19) dE_knownOn_23 fO_E_30 sh_12 rfl rfl (rf_12_6 hS) ?_
      refine wq_iload_n (pc := 26) dE_knownOn_26 rfl rfl ?_
      refine wq_iald (pc := 27) dE_knownOn_27 sh_19 s2.1 s2.2 ?_
      refine wq_if_lt (pc := 28) (tgt := 41) dE_knownOn_28 (by decide) (fun c5 => ?_) (fun c5 => ?_)
      · have H := H.1 c5
        obtain ⟨s6, H⟩ := H
        refine wq_iload_n (pc := 41) dE_knownOn_41 rfl rfl ?_
        refine wq_iconst (pc := 42) dE_knownOn_42 rfl ?_
        refine wq_iload_n (pc := 43) dE_knownOn_43 rfl rfl ?_
        refine wq_ishl (pc := 44) dE_knownOn_44 ?_
        refine wq_ior (pc := 45) dE_knownOn_45 ?_
        refine wq_istore_n (pc := 46) (lo' := [iR 12, iI x1, iI (bOr x2 (bShl 1 x3)), iI x3]) dE_knownOn_46 rfl rfl rfl ?_
        refine wq_iinc (pc := 47) (lo' := [iR 12, iI x1, iI (bOr x2 (bShl 1 x3)), iI (x3 + 1)]) dE_knownOn_47 rfl rfl (by rw [show wr (x3 + 1) = x3 + 1 from (Eq.trans (wr_eq (by omega) (by omega)) (by omega))]; rfl) ?_
        refine wq_goto (pc := 50) (tgt := 4) dE_knownOn_50 (by decide) ?_
        exact H
      · have H := H.2 c5
        refine wq_aload_n (pc := 31) dE_knownOn_31 rfl rfl ?_
        refine wq_getR (pc := 32) (z := 6) (b := 19) dE_knownOn_32 fO_E_30 sh_12 rfl rfl (rf_12_6 hS) ?_
        refine wq_iload_n (pc := 35) dE_knownOn_35 rfl rfl ?_
        refine wq_iald (pc := 36) dE_knownOn_36 sh_19 s2.1 s2.2 ?_
        refine wq_iload_n (pc := 37) dE_knownOn_37 rfl rfl ?_
        refine wq_icmp_le (pc := 38) (tgt := 47) dE_knownOn_38 (by decide) (fun c7 => ?_) (fun c7 => ?_)
        · have H := H.1 c7
          obtain ⟨s8, H⟩ := H
          refine wq_iinc (pc := 47) (lo' := [iR 12, iI x1, iI x2, iI (x3 + 1)]) dE_knownOn_47 rfl rfl (by rw [show wr (x3 + 1) = x3 + 1 from (Eq.trans (wr_eq (by omega) (by omega)) (by omega))]; rfl) ?_
          refine wq_goto (pc := 50) (tgt := 4) dE_knownOn_50 (by decide) ?_
          exact H
        · have H := H.2 c7
          obtain ⟨s9, H⟩ := H
          refine wq_iload_n (pc := 41) dE_knownOn_41 rfl rfl ?_
          refine wq_iconst (pc := 42) dE_knownOn_42 rfl ?_
          refine wq_iload_n (pc := 43) dE_knownOn_43 rfl rfl ?_
          refine wq_ishl (pc := 44) dE_knownOn_44 ?_
          refine wq_ior (pc := 45) dE_knownOn_45 ?_
          refine wq_istore_n (pc := 46) (lo' := [iR 12, iI x1, iI (bOr x2 (bShl 1 x3)), iI x3]) dE_knownOn_46 rfl rfl rfl ?_
          refine wq_iinc (pc := 47) (lo' := [iR 12, iI x1, iI (bOr x2 (bShl 1 x3)), iI (x3 + 1)]) dE_knownOn_47 rfl rfl (by rw [show wr (x3 + 1) = x3 + 1 from (Eq.trans (wr_eq (by omega) (by omega)) (by omega))]; rfl) ?_
          refine wq_goto (pc := 50) (tgt := 4) dE_knownOn_50 (by decide) ?_
          exact H
set_option maxRecDepth 20000 in
theorem B_M_knownOn_0 {x1 : Int} {M : Mm} {Q : Mm → Option Mv → Prop} (H : Wq 2 0 0 mM_knownOn 4 [iR 80, iI x1, iI 0, iI 0, none] [] M Q) : Wq 2 0 0 mM_knownOn 0 [iR 80, iI x1, none, none, none] [] M Q := by
  refine wq_iconst (pc := 0) dM_knownOn_0 rfl ?_
  refine wq_istore_n (pc := 1) (lo' := [iR 80, iI x1, iI 0, none, none]) dM_knownOn_1 rfl rfl rfl ?_
  refine wq_iconst (pc := 2) dM_knownOn_2 rfl ?_
  refine wq_istore_n (pc := 3) (lo' := [iR 80, iI x1, iI 0, iI 0, none]) dM_knownOn_3 rfl rfl rfl ?_
  exact H

set_option maxRecDepth 20000 in
theorem B_M_knownOn_4 {x1 x2 x3 : Int} {M : Mm} {Q : Mm → Option Mv → Prop} (hS : RefOK M) (H : ((gI M 81 4 ≤ x3 → Q M (some (vI x2))) ∧ (¬ gI M 81 4 ≤ x3 → ((0 ≤ 154 + 7 * x3 ∧ 154 + 7 * x3 < 1993) ∧ ((gI M 81 (154 + 7 * x3) < 0 → ((0 ≤ 153 + 7 * x3 ∧ 153 + 7 * x3 < 1993) ∧ ((x1 < gI M 81 (153 + 7 * x3) → ((-2147483648 ≤ x3 + 1 ∧ x3 + 1 < 2147483648) ∧ Wq 2 0 0 mM_knownOn 4 [iR 80, iI x1, iI (bOr x2 0), iI (x3 + 1), none] [] M Q)) ∧ (¬ x1 < gI M 81 (153 + 7 * x3) → ((-2147483648 ≤ x3 + 1 ∧ x3 + 1 < 2147483648) ∧ Wq 2 0 0 mM_knownOn 4 [iR 80, iI x1, iI (bOr x2 (bShl 1 x3)), iI (x3 + 1), none] [] M Q))))) ∧ (¬ gI M 81 (154 + 7 * x3) < 0 → ((0 ≤ 154 + 7 * x3 ∧ 154 + 7 * x3 < 1993) ∧ ((x1 < gI M 81 (154 + 7 * x3) → ((0 ≤ 153 + 7 * x3 ∧ 153 + 7 * x3 < 1993) ∧ ((x1 < gI M 81 (153 + 7 * x3) → ((-2147483648 ≤ x3 + 1 ∧ x3 + 1 < 2147483648) ∧ Wq 2 0 0 mM_knownOn 4 [iR 80, iI x1, iI (bOr x2 0), iI (x3 + 1), none] [] M Q)) ∧ (¬ x1 < gI M 81 (153 + 7 * x3) → ((-2147483648 ≤ x3 + 1 ∧ x3 + 1 < 2147483648) ∧ Wq 2 0 0 mM_knownOn 4 [iR 80, iI x1, iI (bOr x2 (bShl 1 x3)), iI (x3 + 1), none] [] M Q))))) ∧ (¬ x1 < gI M 81 (154 + 7 * x3) → ((0 ≤ 153 + 7 * x3 ∧ 153 + 7 * x3 < 1993) ∧ ((x1 < gI M 81 (153 + 7 * x3) → ((-2147483648 ≤ x3 + 1 ∧ x3 + 1 < 2147483648) ∧ Wq 2 0 0 mM_knownOn 4 [iR 80, iI x1, iI (bOr x2 0), iI (x3 + 1), none] [] M Q)) ∧ (¬ x1 < gI M 81 (153 + 7 * x3) → ((-2147483648 ≤ x3 + 1 ∧ x3 + 1 < 2147483648) ∧ Wq 2 0 0 mM_knownOn 4 [iR 80, iI x1, iI (bOr x2 0), iI (x3 + 1), none] [] M Q))))))))))))) : Wq 2 0 0 mM_knownOn 4 [iR 80, iI x1, iI x2, iI x3, none] [] M Q := by
  refine wq_iload_n (pc := 4) dM_knownOn_4 rfl rfl ?_
  refine wq_aload_n (pc := 5) dM_knownOn_5 rfl rfl ?_
  refine wq_getR (pc := 6) (z := 0) (b := 81) dM_knownOn_6 fO_M_9 sh_80 rfl rfl (rf_80_0 hS) ?_
  refine wq_iconst (pc := 9) dM_knownOn_9 rfl ?_
  refine wq_iald (pc := 10) dM_knownOn_10 sh_81 (by decide) (by decide) ?_
  refine wq_icmp_ge (pc := 11) (tgt := 73) dM_knownOn_11 (by decide) (fun c1 => ?_) (fun c1 => ?_)
  · have H := H.1 c1
    refine wq_iload_n (pc := 73) dM_knownOn_73 rfl rfl ?_
    refine wq_ireturn (pc := 74) dM_knownOn_74 trivial ?_
    exact H
  · have H := H.2 c1
    obtain ⟨s2, H⟩ := H
    refine wq_aload_n (pc := 14) dM_knownOn_14 rfl rfl ?_
    refine wq_iload_n (pc := 15) dM_knownOn_15 rfl rfl ?_
    refine wq_bipush (pc := 16) dM_knownOn_16 rfl ?_
    refine wq_callV (d' := 1) (pc := 18) (as := [vI x3, vI 6]) (rest := []) (lo' := [iR 80, iI x3, iI 6]) dM_knownOn_18 mO_M_event2 lV_M_123 sh_80 (by decide) cl_11 rfl rfl rfl rfl rfl rfl ?_
    refine sp_M_event2 (i := (154 + 7 * x3)) (by omega) hS s2 ?_
    show Wq 2 0 0 mM_knownOn 21 [iR 80, iI x1, iI x2, iI x3, none] [vI (gI M 81 (154 + 7 * x3))] M _
    refine wq_if_lt (pc := 21) (tgt := 39) dM_knownOn_21 (by decide) (fun c3 => ?_) (fun c3 => ?_)
    · have H := H.1 c3
      obtain ⟨s4, H⟩ := H
      refine wq_iconst (pc := 39) dM_knownOn_39 rfl ?_
      refine wq_istore (pc := 40) (lo' := [iR 80, iI x1, iI x2, iI x3, iI 0]) dM_knownOn_40 rfl rfl ?_
      refine wq_iload_n (pc := 42) dM_knownOn_42 rfl rfl ?_
      refine wq_aload_n (pc := 43) dM_knownOn_43 rfl rfl ?_
      refine wq_iload_n (pc := 44) dM_knownOn_44 rfl rfl ?_
      refine wq_iconst (pc := 45) dM_knownOn_45 rfl ?_
      refine wq_callV (d' := 1) (pc := 46) (as := [vI x3, vI 5]) (rest := [vI x2]) (lo' := [iR 80, iI x3, iI 5]) dM_knownOn_46 mO_M_event2 lV_M_123 sh_80 (by decide) cl_11 rfl rfl rfl rfl rfl rfl ?_
      refine sp_M_event2 (i := (153 + 7 * x3)) (by omega) hS s4 ?_
      show Wq 2 0 0 mM_knownOn 49 [iR 80, iI x1, iI x2, iI x3, iI 0] [vI (gI M 81 (153 + 7 * x3)), vI x2] M _
      refine wq_iload_n (pc := 49) dM_knownOn_49 rfl rfl ?_
      refine wq_icmp_gt (pc := 50) (tgt := 64) dM_knownOn_50 (by decide) (fun c5 => ?_) (fun c5 => ?_)
      · have H := H.1 c5
        obtain ⟨s6, H⟩ := H
        refine wq_iconst (pc := 64) dM_knownOn_64 rfl ?_
        refine wq_ior (pc := 65) dM_knownOn_65 ?_
        refine wq_istore_n (pc := 66) (lo' := [iR 80, iI x1, iI (bOr x2 0), iI x3, iI 0]) dM_knownOn_66 rfl rfl rfl ?_
        refine wq_iinc (pc := 67) (lo' := [iR 80, iI x1, iI (bOr x2 0), iI (x3 + 1), iI 0]) dM_knownOn_67 rfl rfl (by rw [show wr (x3 + 1) = x3 + 1 from (Eq.trans (wr_eq (by omega) (by omega)) (by omega))]; rfl) ?_
        refine wq_goto (pc := 70) (tgt := 4) dM_knownOn_70 (by decide) ?_
        refine wq_drop [4] (lo' := [iR 80, iI x1, iI (bOr x2 0), iI (x3 + 1), none]) rfl ?_
        exact H
      · have H := H.2 c5
        obtain ⟨s7, H⟩ := H
        refine wq_iload (pc := 53) dM_knownOn_53 rfl ?_
        refine wq_if_ne (pc := 55) (tgt := 64) dM_knownOn_55 (by decide) (fun q => absurd q (by decide)) (fun _ => ?_)
        refine wq_iconst (pc := 58) dM_knownOn_58 rfl ?_
        refine wq_iload_n (pc := 59) dM_knownOn_59 rfl rfl ?_
        refine wq_ishl (pc := 60) dM_knownOn_60 ?_
        refine wq_goto (pc := 61) (tgt := 65) dM_knownOn_61 (by decide) ?_
        refine wq_ior (pc := 65) dM_knownOn_65 ?_
        refine wq_istore_n (pc := 66) (lo' := [iR 80, iI x1, iI (bOr x2 (bShl 1 x3)), iI x3, iI 0]) dM_knownOn_66 rfl rfl rfl ?_
        refine wq_iinc (pc := 67) (lo' := [iR 80, iI x1, iI (bOr x2 (bShl 1 x3)), iI (x3 + 1), iI 0]) dM_knownOn_67 rfl rfl (by rw [show wr (x3 + 1) = x3 + 1 from (Eq.trans (wr_eq (by omega) (by omega)) (by omega))]; rfl) ?_
        refine wq_goto (pc := 70) (tgt := 4) dM_knownOn_70 (by decide) ?_
        refine wq_drop [4] (lo' := [iR 80, iI x1, iI (bOr x2 (bShl 1 x3)), iI (x3 + 1), none]) rfl ?_
        exact H
    · have H := H.2 c3
      obtain ⟨s8, H⟩ := H
      refine wq_aload_n (pc := 24) dM_knownOn_24 rfl rfl ?_
      refine wq_iload_n (pc := 25) dM_knownOn_25 rfl rfl ?_
      refine wq_bipush (pc := 26) dM_knownOn_26 rfl ?_
      refine wq_callV (d' := 1) (pc := 28) (as := [vI x3, vI 6]) (rest := []) (lo' := [iR 80, iI x3, iI 6]) dM_knownOn_28 mO_M_event2 lV_M_123 sh_80 (by decide) cl_11 rfl rfl rfl rfl rfl rfl ?_
      refine sp_M_event2 (i := (154 + 7 * x3)) (by omega) hS s8 ?_
      show Wq 2 0 0 mM_knownOn 31 [iR 80, iI x1, iI x2, iI x3, none] [vI (gI M 81 (154 + 7 * x3))] M _
      refine wq_iload_n (pc := 31) dM_knownOn_31 rfl rfl ?_
      refine wq_icmp_gt (pc := 32) (tgt := 39) dM_knownOn_32 (by decide) (fun c9 => ?_) (fun c9 => ?_)
      · have H := H.1 c9
        obtain ⟨s10, H⟩ := H
        refine wq_iconst (pc := 39) dM_knownOn_39 rfl ?_
        refine wq_istore (pc := 40) (lo' := [iR 80, iI x1, iI x2, iI x3, iI 0]) dM_knownOn_40 rfl rfl ?_
        refine wq_iload_n (pc := 42) dM_knownOn_42 rfl rfl ?_
        refine wq_aload_n (pc := 43) dM_knownOn_43 rfl rfl ?_
        refine wq_iload_n (pc := 44) dM_knownOn_44 rfl rfl ?_
        refine wq_iconst (pc := 45) dM_knownOn_45 rfl ?_
        refine wq_callV (d' := 1) (pc := 46) (as := [vI x3, vI 5]) (rest := [vI x2]) (lo' := [iR 80, iI x3, iI 5]) dM_knownOn_46 mO_M_event2 lV_M_123 sh_80 (by decide) cl_11 rfl rfl rfl rfl rfl rfl ?_
        refine sp_M_event2 (i := (153 + 7 * x3)) (by omega) hS s10 ?_
        show Wq 2 0 0 mM_knownOn 49 [iR 80, iI x1, iI x2, iI x3, iI 0] [vI (gI M 81 (153 + 7 * x3)), vI x2] M _
        refine wq_iload_n (pc := 49) dM_knownOn_49 rfl rfl ?_
        refine wq_icmp_gt (pc := 50) (tgt := 64) dM_knownOn_50 (by decide) (fun c11 => ?_) (fun c11 => ?_)
        · have H := H.1 c11
          obtain ⟨s12, H⟩ := H
          refine wq_iconst (pc := 64) dM_knownOn_64 rfl ?_
          refine wq_ior (pc := 65) dM_knownOn_65 ?_
          refine wq_istore_n (pc := 66) (lo' := [iR 80, iI x1, iI (bOr x2 0), iI x3, iI 0]) dM_knownOn_66 rfl rfl rfl ?_
          refine wq_iinc (pc := 67) (lo' := [iR 80, iI x1, iI (bOr x2 0), iI (x3 + 1), iI 0]) dM_knownOn_67 rfl rfl (by rw [show wr (x3 + 1) = x3 + 1 from (Eq.trans (wr_eq (by omega) (by omega)) (by omega))]; rfl) ?_
          refine wq_goto (pc := 70) (tgt := 4) dM_knownOn_70 (by decide) ?_
          refine wq_drop [4] (lo' := [iR 80, iI x1, iI (bOr x2 0), iI (x3 + 1), none]) rfl ?_
          exact H
        · have H := H.2 c11
          obtain ⟨s13, H⟩ := H
          refine wq_iload (pc := 53) dM_knownOn_53 rfl ?_
          refine wq_if_ne (pc := 55) (tgt := 64) dM_knownOn_55 (by decide) (fun q => absurd q (by decide)) (fun _ => ?_)
          refine wq_iconst (pc := 58) dM_knownOn_58 rfl ?_
          refine wq_iload_n (pc := 59) dM_knownOn_59 rfl rfl ?_
          refine wq_ishl (pc := 60) dM_knownOn_60 ?_
          refine wq_goto (pc := 61) (tgt := 65) dM_knownOn_61 (by decide) ?_
          refine wq_ior (pc := 65) dM_knownOn_65 ?_
          refine wq_istore_n (pc := 66) (lo' := [iR 80, iI x1, iI (bOr x2 (bShl 1 x3)), iI x3, iI 0]) dM_knownOn_66 rfl rfl rfl ?_
          refine wq_iinc (pc := 67) (lo' := [iR 80, iI x1, iI (bOr x2 (bShl 1 x3)), iI (x3 + 1), iI 0]) dM_knownOn_67 rfl rfl (by rw [show wr (x3 + 1) = x3 + 1 from (Eq.trans (wr_eq (by omega) (by omega)) (by omega))]; rfl) ?_
          refine wq_goto (pc := 70) (tgt := 4) dM_knownOn_70 (by decide) ?_
          refine wq_drop [4] (lo' := [iR 80, iI x1, iI (bOr x2 (bShl 1 x3)), iI (x3 + 1), none]) rfl ?_
          exact H
      · have H := H.2 c9
        obtain ⟨s14, H⟩ := H
        refine wq_iconst (pc := 35) dM_knownOn_35 rfl ?_
        refine wq_goto (pc := 36) (tgt := 40) dM_knownOn_36 (by decide) ?_
        refine wq_istore (pc := 40) (lo' := [iR 80, iI x1, iI x2, iI x3, iI 1]) dM_knownOn_40 rfl rfl ?_
        refine wq_iload_n (pc := 42) dM_knownOn_42 rfl rfl ?_
        refine wq_aload_n (pc := 43) dM_knownOn_43 rfl rfl ?_
        refine wq_iload_n (pc := 44) dM_knownOn_44 rfl rfl ?_
        refine wq_iconst (pc := 45) dM_knownOn_45 rfl ?_
        refine wq_callV (d' := 1) (pc := 46) (as := [vI x3, vI 5]) (rest := [vI x2]) (lo' := [iR 80, iI x3, iI 5]) dM_knownOn_46 mO_M_event2 lV_M_123 sh_80 (by decide) cl_11 rfl rfl rfl rfl rfl rfl ?_
        refine sp_M_event2 (i := (153 + 7 * x3)) (by omega) hS s14 ?_
        show Wq 2 0 0 mM_knownOn 49 [iR 80, iI x1, iI x2, iI x3, iI 1] [vI (gI M 81 (153 + 7 * x3)), vI x2] M _
        refine wq_iload_n (pc := 49) dM_knownOn_49 rfl rfl ?_
        refine wq_icmp_gt (pc := 50) (tgt := 64) dM_knownOn_50 (by decide) (fun c15 => ?_) (fun c15 => ?_)
        · have H := H.1 c15
          obtain ⟨s16, H⟩ := H
          refine wq_iconst (pc := 64) dM_knownOn_64 rfl ?_
          refine wq_ior (pc := 65) dM_knownOn_65 ?_
          refine wq_istore_n (pc := 66) (lo' := [iR 80, iI x1, iI (bOr x2 0), iI x3, iI 1]) dM_knownOn_66 rfl rfl rfl ?_
          refine wq_iinc (pc := 67) (lo' := [iR 80, iI x1, iI (bOr x2 0), iI (x3 + 1), iI 1]) dM_knownOn_67 rfl rfl (by rw [show wr (x3 + 1) = x3 + 1 from (Eq.trans (wr_eq (by omega) (by omega)) (by omega))]; rfl) ?_
          refine wq_goto (pc := 70) (tgt := 4) dM_knownOn_70 (by decide) ?_
          refine wq_drop [4] (lo' := [iR 80, iI x1, iI (bOr x2 0), iI (x3 + 1), none]) rfl ?_
          exact H
        · have H := H.2 c15
          obtain ⟨s17, H⟩ := H
          refine wq_iload (pc := 53) dM_knownOn_53 rfl ?_
          refine wq_if_ne (pc := 55) (tgt := 64) dM_knownOn_55 (by decide) (fun _ => ?_) (fun q => absurd q (by decide))
          refine wq_iconst (pc := 64) dM_knownOn_64 rfl ?_
          refine wq_ior (pc := 65) dM_knownOn_65 ?_
          refine wq_istore_n (pc := 66) (lo' := [iR 80, iI x1, iI (bOr x2 0), iI x3, iI 1]) dM_knownOn_66 rfl rfl rfl ?_
          refine wq_iinc (pc := 67) (lo' := [iR 80, iI x1, iI (bOr x2 0), iI (x3 + 1), iI 1]) dM_knownOn_67 rfl rfl (by rw [show wr (x3 + 1) = x3 + 1 from (Eq.trans (wr_eq (by omega) (by omega)) (by omega))]; rfl) ?_
          refine wq_goto (pc := 70) (tgt := 4) dM_knownOn_70 (by decide) ?_
          refine wq_drop [4] (lo' := [iR 80, iI x1, iI (bOr x2 0), iI (x3 + 1), none]) rfl ?_
          exact H
set_option maxRecDepth 20000 in
theorem B_D_told_0 {x1 : Int} {M : Mm} {Q : Mm → Option Mv → Prop} (hS : RefOK M) (H : ((x1 = 0 → Q M (some (vI (gI M 5 6)))) ∧ (x1 = 1 → Q M (some (vI (gI M 5 7)))) ∧ (x1 = 2 → Q M (some (vI (gI M 12 7)))) ∧ (x1 = 3 → Wq 2 0 0 mD_knownToday 0 [iR 0] [] M (fun M' v => Wq 3 0 0 mD_told 93 [iR 0, iI x1] (v.toList ++ []) M' Q)) ∧ (x1 = 4 → Q M (some (vI (gI M 20 6)))) ∧ (x1 = 5 → Q M (some (vI (gI M 1 5)))) ∧ (x1 = 6 → Q M (some (vI (gI M 2 2)))) ∧ (x1 = 7 → Q M (some (vI (gI M 20 5)))) ∧ (x1 = 8 → Q M (some (vI (gI M 26 3)))) ∧ (x1 = 9 → Q M (some (vI (gI M 66 1)))) ∧ (¬ x1 = 0 ∧ ¬ x1 = 1 ∧ ¬ x1 = 2 ∧ ¬ x1 = 3 ∧ ¬ x1 = 4 ∧ ¬ x1 = 5 ∧ ¬ x1 = 6 ∧ ¬ x1 = 7 ∧ ¬ x1 = 8 ∧ ¬ x1 = 9 → Q (sI M 69 1 (wr (gI M 69 1 + 1))) (some (vI (-1000001)))))) : Wq 3 0 0 mD_told 0 [iR 0, iI x1] [] M Q := by
  refine wq_iload_n (pc := 0) dD_told_0 rfl rfl ?_
  by_cases c1 : x1 = 0
  · refine wq_tabIn (pc := 1) (tgt := 56) dD_told_1 (by rw [c1]; decide) (by rw [c1]; decide) (by rw [c1]; rfl) (by decide) ?_
    have H := H.1 c1
    refine wq_aload_n (pc := 56) dD_told_56 rfl rfl ?_
    refine wq_getR (pc := 57) (z := 0) (b := 1) dD_told_57 fO_D_12 sh_0 rfl rfl (rf_0_0 hS) ?_
    refine wq_getR (pc := 60) (z := 1) (b := 5) dD_told_60 fO_D_74 sh_1 rfl rfl (rf_1_1 hS) ?_
    refine wq_getI (pc := 63) (z := 6) dD_told_63 fO_D_78 sh_5 rfl rfl ?_
    refine wq_ireturn (pc := 66) dD_told_66 trivial ?_
    exact H
  by_cases c2 : x1 = 1
  · refine wq_tabIn (pc := 1) (tgt := 67) dD_told_1 (by rw [c2]; decide) (by rw [c2]; decide) (by rw [c2]; rfl) (by decide) ?_
    have H := H.2.1 c2
    refine wq_aload_n (pc := 67) dD_told_67 rfl rfl ?_
    refine wq_getR (pc := 68) (z := 0) (b := 1) dD_told_68 fO_D_12 sh_0 rfl rfl (rf_0_0 hS) ?_
    refine wq_getR (pc := 71) (z := 1) (b := 5) dD_told_71 fO_D_74 sh_1 rfl rfl (rf_1_1 hS) ?_
    refine wq_getI (pc := 74) (z := 7) dD_told_74 fO_D_118 sh_5 rfl rfl ?_
    refine wq_ireturn (pc := 77) dD_told_77 trivial ?_
    exact H
  by_cases c3 : x1 = 2
  · refine wq_tabIn (pc := 1) (tgt := 78) dD_told_1 (by rw [c3]; decide) (by rw [c3]; decide) (by rw [c3]; rfl) (by decide) ?_
    have H := H.2.2.1 c3
    refine wq_aload_n (pc := 78) dD_told_78 rfl rfl ?_
    refine wq_getR (pc := 79) (z := 0) (b := 1) dD_told_79 fO_D_12 sh_0 rfl rfl (rf_0_0 hS) ?_
    refine wq_getR (pc := 82) (z := 2) (b := 12) dD_told_82 fO_D_148 sh_1 rfl rfl (rf_1_2 hS) ?_
    refine wq_getI (pc := 85) (z := 7) dD_told_85 fO_D_152 sh_12 rfl rfl ?_
    refine wq_ireturn (pc := 88) dD_told_88 trivial ?_
    exact H
  by_cases c4 : x1 = 3
  · refine wq_tabIn (pc := 1) (tgt := 89) dD_told_1 (by rw [c4]; decide) (by rw [c4]; decide) (by rw [c4]; rfl) (by decide) ?_
    have H := H.2.2.2.1 c4
    refine wq_aload_n (pc := 89) dD_told_89 rfl rfl ?_
    refine wq_callV (d' := 2) (pc := 90) (as := []) (rest := []) (lo' := [iR 0]) dD_told_90 mO_D_knownToday lV_D_272 sh_0 (by decide) cl_10 rfl rfl rfl rfl rfl rfl ?_
    exact H
  by_cases c5 : x1 = 4
  · refine wq_tabIn (pc := 1) (tgt := 97) dD_told_1 (by rw [c5]; decide) (by rw [c5]; decide) (by rw [c5]; rfl) (by decide) ?_
    have H := H.2.2.2.2.1 c5
    refine wq_aload_n (pc := 97) dD_told_97 rfl rfl ?_
    refine wq_getR (pc := 98) (z := 0) (b := 1) dD_told_98 fO_D_12 sh_0 rfl rfl (rf_0_0 hS) ?_
    refine wq_getR (pc := 101) (z := 3) (b := 20) dD_told_101 fO_D_227 sh_1 rfl rfl (rf_1_3 hS) ?_
    refine wq_getI (pc := 104) (z := 6) dD_told_104 fO_D_243 sh_20 rfl rfl ?_
    refine wq_ireturn (pc := 107) dD_told_107 trivial ?_
    exact H
  by_cases c6 : x1 = 5
  · refine wq_tabIn (pc := 1) (tgt := 108) dD_told_1 (by rw [c6]; decide) (by rw [c6]; decide) (by rw [c6]; rfl) (by decide) ?_
    have H := H.2.2.2.2.2.1 c6
    refine wq_aload_n (pc := 108) dD_told_108 rfl rfl ?_
    refine wq_getR (pc := 109) (z := 0) (b := 1) dD_told_109 fO_D_12 sh_0 rfl rfl (rf_0_0 hS) ?_
    refine wq_getI (pc := 112) (z := 5) dD_told_112 fO_D_142 sh_1 rfl rfl ?_
    refine wq_ireturn (pc := 115) dD_told_115 trivial ?_
    exact H
  by_cases c7 : x1 = 6
  · refine wq_tabIn (pc := 1) (tgt := 116) dD_told_1 (by rw [c7]; decide) (by rw [c7]; decide) (by rw [c7]; rfl) (by decide) ?_
    have H := H.2.2.2.2.2.2.1 c7
    refine wq_aload_n (pc := 116) dD_told_116 rfl rfl ?_
    refine wq_getR (pc := 117) (z := 0) (b := 1) dD_told_117 fO_D_12 sh_0 rfl rfl (rf_0_0 hS) ?_
    refine wq_getR (pc := 120) (z := 0) (b := 2) dD_told_120 fO_D_129 sh_1 rfl rfl (rf_1_0 hS) ?_
    refine wq_getI (pc := 123) (z := 2) dD_told_123 fO_D_341 sh_2 rfl rfl ?_
    refine wq_ireturn (pc := 126) dD_told_126 trivial ?_
    exact H
  by_cases c8 : x1 = 7
  · refine wq_tabIn (pc := 1) (tgt := 127) dD_told_1 (by rw [c8]; decide) (by rw [c8]; decide) (by rw [c8]; rfl) (by decide) ?_
    have H := H.2.2.2.2.2.2.2.1 c8
    refine wq_aload_n (pc := 127) dD_told_127 rfl rfl ?_
    refine wq_getR (pc := 128) (z := 0) (b := 1) dD_told_128 fO_D_12 sh_0 rfl rfl (rf_0_0 hS) ?_
    refine wq_getR (pc := 131) (z := 3) (b := 20) dD_told_131 fO_D_227 sh_1 rfl rfl (rf_1_3 hS) ?_
    refine wq_getI (pc := 134) (z := 5) dD_told_134 fO_D_231 sh_20 rfl rfl ?_
    refine wq_ireturn (pc := 137) dD_told_137 trivial ?_
    exact H
  by_cases c9 : x1 = 8
  · refine wq_tabIn (pc := 1) (tgt := 138) dD_told_1 (by rw [c9]; decide) (by rw [c9]; decide) (by rw [c9]; rfl) (by decide) ?_
    have H := H.2.2.2.2.2.2.2.2.1 c9
    refine wq_aload_n (pc := 138) dD_told_138 rfl rfl ?_
    refine wq_getR (pc := 139) (z := 0) (b := 1) dD_told_139 fO_D_12 sh_0 rfl rfl (rf_0_0 hS) ?_
    refine wq_getR (pc := 142) (z := 4) (b := 26) dD_told_142 fO_D_102 sh_1 rfl rfl (rf_1_4 hS) ?_
    refine wq_getI (pc := 145) (z := 3) dD_told_145 fO_D_278 sh_26 rfl rfl ?_
    refine wq_ireturn (pc := 148) dD_told_148 trivial ?_
    exact H
  by_cases c10 : x1 = 9
  · refine wq_tabIn (pc := 1) (tgt := 149) dD_told_1 (by rw [c10]; decide) (by rw [c10]; decide) (by rw [c10]; rfl) (by decide) ?_
    have H := H.2.2.2.2.2.2.2.2.2.1 c10
    refine wq_aload_n (pc := 149) dD_told_149 rfl rfl ?_
    refine wq_getR (pc := 150) (z := 4) (b := 66) dD_told_150 fO_D_36 sh_0 rfl rfl (rf_0_4 hS) ?_
    refine wq_getI (pc := 153) (z := 1) dD_told_153 fO_D_312 sh_66 rfl rfl ?_
    refine wq_ireturn (pc := 156) dD_told_156 trivial ?_
    exact H
  refine wq_tabOut (pc := 1) (tgt := 157) dD_told_1 (by omega) (by decide) ?_
  have H := H.2.2.2.2.2.2.2.2.2.2 (by omega)
  refine wq_aload_n (pc := 157) dD_told_157 rfl rfl ?_
  refine wq_ldc (pc := 158) (z := (-1000001)) dD_told_158 kO_D_69 (by decide) ?_
  refine wq_callV (d' := 2) (pc := 160) (as := [vI (-1000001)]) (rest := []) (lo' := [iR 0, iI ((-1000001)), none]) dD_told_160 mO_D_finding lV_D_70 sh_0 (by decide) cl_10 rfl rfl rfl rfl rfl rfl ?_
  refine sp_D_finding (k := 1) (by decide) (by decide) (by decide) hS ?_
  show Wq 3 0 0 mD_told 163 [iR 0, iI x1] [vI (-1000001)] (sI M 69 1 (wr (gI M 69 1 + 1))) _
  refine wq_ireturn (pc := 163) dD_told_163 trivial ?_
  exact H

set_option maxRecDepth 20000 in
theorem B_D_told_93 {x1 y0 : Int} {M : Mm} {Q : Mm → Option Mv → Prop} (H : Wq 1 0 0 mJ_bitCount 0 [iI y0] [] M (fun M' v => Wq 3 0 0 mD_told 96 [iR 0, iI x1] (v.toList ++ []) M' Q)) : Wq 3 0 0 mD_told 93 [iR 0, iI x1] [vI y0] M Q := by
  refine wq_callS (d' := 1) (pc := 93) (as := [vI y0]) (rest := []) (lo' := [iI y0]) dD_told_93 mO_J_bitCount lS_D_336 rfl rfl rfl rfl rfl rfl ?_
  exact H

set_option maxRecDepth 20000 in
theorem B_D_told_96 {x1 y0 : Int} {M : Mm} {Q : Mm → Option Mv → Prop} (H : Q M (some (vI y0))) : Wq 3 0 0 mD_told 96 [iR 0, iI x1] [vI y0] M Q := by
  refine wq_ireturn (pc := 96) dD_told_96 trivial ?_
  exact H
set_option maxRecDepth 20000 in
theorem B_M_told_0 {x1 : Int} {M : Mm} {Q : Mm → Option Mv → Prop} (hS : RefOK M) (H : ((x1 = 0 → Q M (some (vI (gI M 81 2)))) ∧ (x1 = 1 → Q M (some (vI (gI M 81 3)))) ∧ (x1 = 2 → Q M (some (vI (gI M 81 4)))) ∧ (x1 = 3 → Wq 3 0 0 mM_told 79 [iR 80, iI x1, iI 0, iI 0] [] M Q) ∧ (x1 = 4 → Q M (some (vI (gI M 81 5)))) ∧ (x1 = 5 → Q M (some (vI (gI M 81 0)))) ∧ (x1 = 6 → Wq 3 0 0 mM_told 138 [iR 80, iI x1, iI 0, iI 0] [] M Q) ∧ (x1 = 7 → Q M (some (vI (gI M 81 7)))) ∧ (x1 = 8 → Q M (some (vI (gI M 81 6)))) ∧ (x1 = 9 → Q M (some (vI (gI M 80 8)))) ∧ (¬ x1 = 0 ∧ ¬ x1 = 1 ∧ ¬ x1 = 2 ∧ ¬ x1 = 3 ∧ ¬ x1 = 4 ∧ ¬ x1 = 5 ∧ ¬ x1 = 6 ∧ ¬ x1 = 7 ∧ ¬ x1 = 8 ∧ ¬ x1 = 9 → Q (sI M 83 1 (wr (gI M 83 1 + 1))) (some (vI (-1000001)))))) : Wq 3 0 0 mM_told 0 [iR 80, iI x1, none, none] [] M Q := by
  refine wq_iconst (pc := 0) dM_told_0 rfl ?_
  refine wq_istore_n (pc := 1) (lo' := [iR 80, iI x1, iI 0, none]) dM_told_1 rfl rfl rfl ?_
  refine wq_iload_n (pc := 2) dM_told_2 rfl rfl ?_
  by_cases c1 : x1 = 0
  · refine wq_tabIn (pc := 3) (tgt := 56) dM_told_3 (by rw [c1]; decide) (by rw [c1]; decide) (by rw [c1]; rfl) (by decide) ?_
    have H := H.1 c1
    refine wq_aload_n (pc := 56) dM_told_56 rfl rfl ?_
    refine wq_getR (pc := 57) (z := 0) (b := 81) dM_told_57 fO_M_9 sh_80 rfl rfl (rf_80_0 hS) ?_
    refine wq_iconst (pc := 60) dM_told_60 rfl ?_
    refine wq_iald (pc := 61) dM_told_61 sh_81 (by decide) (by decide) ?_
    refine wq_ireturn (pc := 62) dM_told_62 trivial ?_
    exact H
  by_cases c2 : x1 = 1
  · refine wq_tabIn (pc := 3) (tgt := 63) dM_told_3 (by rw [c2]; decide) (by rw [c2]; decide) (by rw [c2]; rfl) (by decide) ?_
    have H := H.2.1 c2
    refine wq_aload_n (pc := 63) dM_told_63 rfl rfl ?_
    refine wq_getR (pc := 64) (z := 0) (b := 81) dM_told_64 fO_M_9 sh_80 rfl rfl (rf_80_0 hS) ?_
    refine wq_iconst (pc := 67) dM_told_67 rfl ?_
    refine wq_iald (pc := 68) dM_told_68 sh_81 (by decide) (by decide) ?_
    refine wq_ireturn (pc := 69) dM_told_69 trivial ?_
    exact H
  by_cases c3 : x1 = 2
  · refine wq_tabIn (pc := 3) (tgt := 70) dM_told_3 (by rw [c3]; decide) (by rw [c3]; decide) (by rw [c3]; rfl) (by decide) ?_
    have H := H.2.2.1 c3
    refine wq_aload_n (pc := 70) dM_told_70 rfl rfl ?_
    refine wq_getR (pc := 71) (z := 0) (b := 81) dM_told_71 fO_M_9 sh_80 rfl rfl (rf_80_0 hS) ?_
    refine wq_iconst (pc := 74) dM_told_74 rfl ?_
    refine wq_iald (pc := 75) dM_told_75 sh_81 (by decide) (by decide) ?_
    refine wq_ireturn (pc := 76) dM_told_76 trivial ?_
    exact H
  by_cases c4 : x1 = 3
  · refine wq_tabIn (pc := 3) (tgt := 77) dM_told_3 (by rw [c4]; decide) (by rw [c4]; decide) (by rw [c4]; rfl) (by decide) ?_
    have H := H.2.2.2.1 c4
    refine wq_iconst (pc := 77) dM_told_77 rfl ?_
    refine wq_istore_n (pc := 78) (lo' := [iR 80, iI x1, iI 0, iI 0]) dM_told_78 rfl rfl rfl ?_
    exact H
  by_cases c5 : x1 = 4
  · refine wq_tabIn (pc := 3) (tgt := 122) dM_told_3 (by rw [c5]; decide) (by rw [c5]; decide) (by rw [c5]; rfl) (by decide) ?_
    have H := H.2.2.2.2.1 c5
    refine wq_aload_n (pc := 122) dM_told_122 rfl rfl ?_
    refine wq_getR (pc := 123) (z := 0) (b := 81) dM_told_123 fO_M_9 sh_80 rfl rfl (rf_80_0 hS) ?_
    refine wq_iconst (pc := 126) dM_told_126 rfl ?_
    refine wq_iald (pc := 127) dM_told_127 sh_81 (by decide) (by decide) ?_
    refine wq_ireturn (pc := 128) dM_told_128 trivial ?_
    exact H
  by_cases c6 : x1 = 5
  · refine wq_tabIn (pc := 3) (tgt := 129) dM_told_3 (by rw [c6]; decide) (by rw [c6]; decide) (by rw [c6]; rfl) (by decide) ?_
    have H := H.2.2.2.2.2.1 c6
    refine wq_aload_n (pc := 129) dM_told_129 rfl rfl ?_
    refine wq_getR (pc := 130) (z := 0) (b := 81) dM_told_130 fO_M_9 sh_80 rfl rfl (rf_80_0 hS) ?_
    refine wq_iconst (pc := 133) dM_told_133 rfl ?_
    refine wq_iald (pc := 134) dM_told_134 sh_81 (by decide) (by decide) ?_
    refine wq_ireturn (pc := 135) dM_told_135 trivial ?_
    exact H
  by_cases c7 : x1 = 6
  · refine wq_tabIn (pc := 3) (tgt := 136) dM_told_3 (by rw [c7]; decide) (by rw [c7]; decide) (by rw [c7]; rfl) (by decide) ?_
    have H := H.2.2.2.2.2.2.1 c7
    refine wq_iconst (pc := 136) dM_told_136 rfl ?_
    refine wq_istore_n (pc := 137) (lo' := [iR 80, iI x1, iI 0, iI 0]) dM_told_137 rfl rfl rfl ?_
    exact H
  by_cases c8 : x1 = 7
  · refine wq_tabIn (pc := 3) (tgt := 166) dM_told_3 (by rw [c8]; decide) (by rw [c8]; decide) (by rw [c8]; rfl) (by decide) ?_
    have H := H.2.2.2.2.2.2.2.1 c8
    refine wq_aload_n (pc := 166) dM_told_166 rfl rfl ?_
    refine wq_getR (pc := 167) (z := 0) (b := 81) dM_told_167 fO_M_9 sh_80 rfl rfl (rf_80_0 hS) ?_
    refine wq_bipush (pc := 170) dM_told_170 rfl ?_
    refine wq_iald (pc := 172) dM_told_172 sh_81 (by decide) (by decide) ?_
    refine wq_ireturn (pc := 173) dM_told_173 trivial ?_
    exact H
  by_cases c9 : x1 = 8
  · refine wq_tabIn (pc := 3) (tgt := 174) dM_told_3 (by rw [c9]; decide) (by rw [c9]; decide) (by rw [c9]; rfl) (by decide) ?_
    have H := H.2.2.2.2.2.2.2.2.1 c9
    refine wq_aload_n (pc := 174) dM_told_174 rfl rfl ?_
    refine wq_getR (pc := 175) (z := 0) (b := 81) dM_told_175 fO_M_9 sh_80 rfl rfl (rf_80_0 hS) ?_
    refine wq_bipush (pc := 178) dM_told_178 rfl ?_
    refine wq_iald (pc := 180) dM_told_180 sh_81 (by decide) (by decide) ?_
    refine wq_ireturn (pc := 181) dM_told_181 trivial ?_
    exact H
  by_cases c10 : x1 = 9
  · refine wq_tabIn (pc := 3) (tgt := 182) dM_told_3 (by rw [c10]; decide) (by rw [c10]; decide) (by rw [c10]; rfl) (by decide) ?_
    have H := H.2.2.2.2.2.2.2.2.2.1 c10
    refine wq_aload_n (pc := 182) dM_told_182 rfl rfl ?_
    refine wq_getI (pc := 183) (z := 8) dM_told_183 fO_M_286 sh_80 rfl rfl ?_
    refine wq_ireturn (pc := 186) dM_told_186 trivial ?_
    exact H
  refine wq_tabOut (pc := 3) (tgt := 187) dM_told_3 (by omega) (by decide) ?_
  have H := H.2.2.2.2.2.2.2.2.2.2 (by omega)
  refine wq_aload_n (pc := 187) dM_told_187 rfl rfl ?_
  refine wq_ldc (pc := 188) (z := (-1000001)) dM_told_188 kO_M_78 (by decide) ?_
  refine wq_callV (d' := 1) (pc := 190) (as := [vI (-1000001)]) (rest := []) (lo' := [iR 80, iI ((-1000001))]) dM_told_190 mO_M_finding lV_M_79 sh_80 (by decide) cl_11 rfl rfl rfl rfl rfl rfl ?_
  refine sp_M_finding (k := 1) (by decide) (by decide) (by decide) hS ?_
  show Wq 3 0 0 mM_told 193 [iR 80, iI x1, iI 0, none] [vI (-1000001)] (sI M 83 1 (wr (gI M 83 1 + 1))) _
  refine wq_ireturn (pc := 193) dM_told_193 trivial ?_
  exact H

set_option maxRecDepth 20000 in
theorem B_M_told_79 {x1 x2 x3 : Int} {M : Mm} {Q : Mm → Option Mv → Prop} (hS : RefOK M) (H : ((gI M 81 4 ≤ x3 → Q M (some (vI x2))) ∧ (¬ gI M 81 4 ≤ x3 → Wq 2 0 0 mM_knownOn 0 [iR 80, iI (gI M 81 0), none, none, none] [] M (fun M' v => Wq 3 0 0 mM_told 100 [iR 80, iI x1, iI x2, iI x3] (v.toList ++ [vI x2]) M' Q)))) : Wq 3 0 0 mM_told 79 [iR 80, iI x1, iI x2, iI x3] [] M Q := by
  refine wq_iload_n (pc := 79) dM_told_79 rfl rfl ?_
  refine wq_aload_n (pc := 80) dM_told_80 rfl rfl ?_
  refine wq_getR (pc := 81) (z := 0) (b := 81) dM_told_81 fO_M_9 sh_80 rfl rfl (rf_80_0 hS) ?_
  refine wq_iconst (pc := 84) dM_told_84 rfl ?_
  refine wq_iald (pc := 85) dM_told_85 sh_81 (by decide) (by decide) ?_
  refine wq_icmp_ge (pc := 86) (tgt := 120) dM_told_86 (by decide) (fun c1 => ?_) (fun c1 => ?_)
  · have H := H.1 c1
    refine wq_iload_n (pc := 120) dM_told_120 rfl rfl ?_
    refine wq_ireturn (pc := 121) dM_told_121 trivial ?_
    exact H
  · have H := H.2 c1
    refine wq_iload_n (pc := 89) dM_told_89 rfl rfl ?_
    refine wq_aload_n (pc := 90) dM_told_90 rfl rfl ?_
    refine wq_aload_n (pc := 91) dM_told_91 rfl rfl ?_
    refine wq_getR (pc := 92) (z := 0) (b := 81) dM_told_92 fO_M_9 sh_80 rfl rfl (rf_80_0 hS) ?_
    refine wq_iconst (pc := 95) dM_told_95 rfl ?_
    refine wq_iald (pc := 96) dM_told_96 sh_81 (by decide) (by decide) ?_
    refine wq_callV (d' := 2) (pc := 97) (as := [vI (gI M 81 0)]) (rest := [vI x2]) (lo' := [iR 80, iI (gI M 81 0), none, none, none]) dM_told_97 mO_M_knownOn lV_M_132 sh_80 (by decide) cl_11 rfl rfl rfl rfl rfl rfl ?_
    exact H

set_option maxRecDepth 20000 in
theorem B_M_told_100 {x1 x2 x3 y0 y1 : Int} {M : Mm} {Q : Mm → Option Mv → Prop} (H : ((0 ≤ y0 ∧ y0 < 2147483648 ∧ 0 ≤ x3 ∧ x3 < 32) ∧ ((hb y0 x3 = true → (((-2147483648 ≤ y1 + 1 ∧ y1 + 1 < 2147483648) ∧ (-2147483648 ≤ x3 + 1 ∧ x3 + 1 < 2147483648)) ∧ Wq 3 0 0 mM_told 79 [iR 80, iI x1, iI (y1 + 1), iI (x3 + 1)] [] M Q)) ∧ (¬ (hb y0 x3 = true) → (((-2147483648 ≤ y1 ∧ y1 < 2147483648) ∧ (-2147483648 ≤ x3 + 1 ∧ x3 + 1 < 2147483648)) ∧ Wq 3 0 0 mM_told 79 [iR 80, iI x1, iI y1, iI (x3 + 1)] [] M Q))))) : Wq 3 0 0 mM_told 100 [iR 80, iI x1, iI x2, iI x3] [vI y0, vI y1] M Q := by
  obtain ⟨s1, H⟩ := H
  refine wq_iload_n (pc := 100) dM_told_100 rfl rfl ?_
  refine wq_callS (d' := 1) (pc := 101) (as := [vI y0, vI x3]) (rest := [vI y1]) (lo' := [iI y0, iI x3]) dM_told_101 mO_M_has lS_M_102 rfl rfl rfl rfl rfl rfl ?_
  refine sp_M_has s1 (fun c2 => ?_) (fun c2 => ?_)
  · have H := H.1 c2
    show Wq 3 0 0 mM_told 104 [iR 80, iI x1, iI x2, iI x3] [vI 1, vI y1] M _
    obtain ⟨⟨s3, s4⟩, H⟩ := H
    refine wq_if_eq (pc := 104) (tgt := 111) dM_told_104 (by decide) (fun q => absurd q (by decide)) (fun _ => ?_)
    refine wq_iconst (pc := 107) dM_told_107 rfl ?_
    refine wq_goto (pc := 108) (tgt := 112) dM_told_108 (by decide) ?_
    refine wq_iadd (pc := 112) dM_told_112 ?_
    refine wq_re (x := (wr (y1 + 1))) (y := (y1 + 1)) (Eq.trans (wr_eq (by omega) (by omega)) (by omega)) ?_
    refine wq_istore_n (pc := 113) (lo' := [iR 80, iI x1, iI (y1 + 1), iI x3]) dM_told_113 rfl rfl rfl ?_
    refine wq_iinc (pc := 114) (lo' := [iR 80, iI x1, iI (y1 + 1), iI (x3 + 1)]) dM_told_114 rfl rfl (by rw [show wr (x3 + 1) = x3 + 1 from (Eq.trans (wr_eq (by omega) (by omega)) (by omega))]; rfl) ?_
    refine wq_goto (pc := 117) (tgt := 79) dM_told_117 (by decide) ?_
    exact H
  · have H := H.2 c2
    show Wq 3 0 0 mM_told 104 [iR 80, iI x1, iI x2, iI x3] [vI 0, vI y1] M _
    obtain ⟨⟨s5, s6⟩, H⟩ := H
    refine wq_if_eq (pc := 104) (tgt := 111) dM_told_104 (by decide) (fun _ => ?_) (fun q => absurd (by decide) q)
    refine wq_iconst (pc := 111) dM_told_111 rfl ?_
    refine wq_iadd (pc := 112) dM_told_112 ?_
    refine wq_re (x := (wr (y1 + 0))) (y := y1) (Eq.trans (wr_eq (by omega) (by omega)) (by omega)) ?_
    refine wq_istore_n (pc := 113) (lo' := [iR 80, iI x1, iI y1, iI x3]) dM_told_113 rfl rfl rfl ?_
    refine wq_iinc (pc := 114) (lo' := [iR 80, iI x1, iI y1, iI (x3 + 1)]) dM_told_114 rfl rfl (by rw [show wr (x3 + 1) = x3 + 1 from (Eq.trans (wr_eq (by omega) (by omega)) (by omega))]; rfl) ?_
    refine wq_goto (pc := 117) (tgt := 79) dM_told_117 (by decide) ?_
    exact H

set_option maxRecDepth 20000 in
theorem B_M_told_138 {x1 x2 x3 : Int} {M : Mm} {Q : Mm → Option Mv → Prop} (hS : RefOK M) (H : ((900 ≤ x3 → Q M (some (vI x2))) ∧ (¬ 900 ≤ x3 → (((0 ≤ 1033 + x3 ∧ 1033 + x3 < 1993) ∧ (-2147483648 ≤ x2 + gI M 81 (1033 + x3) ∧ x2 + gI M 81 (1033 + x3) < 2147483648) ∧ (-2147483648 ≤ x3 + 1 ∧ x3 + 1 < 2147483648)) ∧ Wq 3 0 0 mM_told 138 [iR 80, iI x1, iI (x2 + gI M 81 (1033 + x3)), iI (x3 + 1)] [] M Q)))) : Wq 3 0 0 mM_told 138 [iR 80, iI x1, iI x2, iI x3] [] M Q := by
  refine wq_iload_n (pc := 138) dM_told_138 rfl rfl ?_
  refine wq_sipush (pc := 139) dM_told_139 rfl ?_
  refine wq_icmp_ge (pc := 142) (tgt := 164) dM_told_142 (by decide) (fun c1 => ?_) (fun c1 => ?_)
  · have H := H.1 c1
    refine wq_iload_n (pc := 164) dM_told_164 rfl rfl ?_
    refine wq_ireturn (pc := 165) dM_told_165 trivial ?_
    exact H
  · have H := H.2 c1
    obtain ⟨⟨s2, s3, s4⟩, H⟩ := H
    refine wq_iload_n (pc := 145) dM_told_145 rfl rfl ?_
    refine wq_aload_n (pc := 146) dM_told_146 rfl rfl ?_
    refine wq_getR (pc := 147) (z := 0) (b := 81) dM_told_147 fO_M_9 sh_80 rfl rfl (rf_80_0 hS) ?_
    refine wq_sipush (pc := 150) dM_told_150 rfl ?_
    refine wq_iload_n (pc := 153) dM_told_153 rfl rfl ?_
    refine wq_iadd (pc := 154) dM_told_154 ?_
    refine wq_re (x := (wr (1033 + x3))) (y := (1033 + x3)) (Eq.trans (wr_eq (by omega) (by omega)) (by omega)) ?_
    refine wq_iald (pc := 155) dM_told_155 sh_81 s2.1 s2.2 ?_
    refine wq_iadd (pc := 156) dM_told_156 ?_
    refine wq_re (x := (wr (x2 + gI M 81 (1033 + x3)))) (y := (x2 + gI M 81 (1033 + x3))) (Eq.trans (wr_eq (by omega) (by omega)) (by omega)) ?_
    refine wq_istore_n (pc := 157) (lo' := [iR 80, iI x1, iI (x2 + gI M 81 (1033 + x3)), iI x3]) dM_told_157 rfl rfl rfl ?_
    refine wq_iinc (pc := 158) (lo' := [iR 80, iI x1, iI (x2 + gI M 81 (1033 + x3)), iI (x3 + 1)]) dM_told_158 rfl rfl (by rw [show wr (x3 + 1) = x3 + 1 from (Eq.trans (wr_eq (by omega) (by omega)) (by omega))]; rfl) ?_
    refine wq_goto (pc := 161) (tgt := 138) dM_told_161 (by decide) ?_
    exact H
set_option maxRecDepth 20000 in
theorem B_D_knownToday_0 {M : Mm} {Q : Mm → Option Mv → Prop} (hS : RefOK M) (H : Wq 1 0 0 mE_knownOn 0 [iR 12, iI (gI M 1 5), none, none] [] M (fun M' v => Wq 2 0 0 mD_knownToday 17 [iR 0] (v.toList ++ []) M' Q)) : Wq 2 0 0 mD_knownToday 0 [iR 0] [] M Q := by
  refine wq_aload_n (pc := 0) dD_knownToday_0 rfl rfl ?_
  refine wq_getR (pc := 1) (z := 0) (b := 1) dD_knownToday_1 fO_D_12 sh_0 rfl rfl (rf_0_0 hS) ?_
  refine wq_getR (pc := 4) (z := 2) (b := 12) dD_knownToday_4 fO_D_148 sh_1 rfl rfl (rf_1_2 hS) ?_
  refine wq_aload_n (pc := 7) dD_knownToday_7 rfl rfl ?_
  refine wq_getR (pc := 8) (z := 0) (b := 1) dD_knownToday_8 fO_D_12 sh_0 rfl rfl (rf_0_0 hS) ?_
  refine wq_getI (pc := 11) (z := 5) dD_knownToday_11 fO_D_142 sh_1 rfl rfl ?_
  refine wq_callV (d' := 1) (pc := 14) (as := [vI (gI M 1 5)]) (rest := []) (lo' := [iR 12, iI (gI M 1 5), none, none]) dD_knownToday_14 mO_E_knownOn lV_D_183 sh_12 (by decide) cl_2 rfl rfl rfl rfl rfl rfl ?_
  exact H

set_option maxRecDepth 20000 in
theorem B_D_knownToday_17 {y0 : Int} {M : Mm} {Q : Mm → Option Mv → Prop} (H : Q M (some (vI y0))) : Wq 2 0 0 mD_knownToday 17 [iR 0] [vI y0] M Q := by
  refine wq_ireturn (pc := 17) dD_knownToday_17 trivial ?_
  exact H
set_option maxRecDepth 20000 in
theorem B_J_bitCount_0 {x0 : Int} {M : Mm} {Q : Mm → Option Mv → Prop} (H : (((-2147483648 ≤ x0 - bAnd (bUshr x0 1) 1431655765 ∧ x0 - bAnd (bUshr x0 1) 1431655765 < 2147483648) ∧ (-2147483648 ≤ bAnd (x0 - bAnd (bUshr x0 1) 1431655765) 858993459 + bAnd (bUshr (x0 - bAnd (bUshr x0 1) 1431655765) 2) 858993459 ∧ bAnd (x0 - bAnd (bUshr x0 1) 1431655765) 858993459 + bAnd (bUshr (x0 - bAnd (bUshr x0 1) 1431655765) 2) 858993459 < 2147483648) ∧ (-2147483648 ≤ bAnd (x0 - bAnd (bUshr x0 1) 1431655765) 858993459 + bAnd (bUshr (x0 - bAnd (bUshr x0 1) 1431655765) 2) 858993459 + bUshr (bAnd (x0 - bAnd (bUshr x0 1) 1431655765) 858993459 + bAnd (bUshr (x0 - bAnd (bUshr x0 1) 1431655765) 2) 858993459) 4 ∧ bAnd (x0 - bAnd (bUshr x0 1) 1431655765) 858993459 + bAnd (bUshr (x0 - bAnd (bUshr x0 1) 1431655765) 2) 858993459 + bUshr (bAnd (x0 - bAnd (bUshr x0 1) 1431655765) 858993459 + bAnd (bUshr (x0 - bAnd (bUshr x0 1) 1431655765) 2) 858993459) 4 < 2147483648) ∧ (-2147483648 ≤ bAnd (bAnd (x0 - bAnd (bUshr x0 1) 1431655765) 858993459 + bAnd (bUshr (x0 - bAnd (bUshr x0 1) 1431655765) 2) 858993459 + bUshr (bAnd (x0 - bAnd (bUshr x0 1) 1431655765) 858993459 + bAnd (bUshr (x0 - bAnd (bUshr x0 1) 1431655765) 2) 858993459) 4) 252645135 + bUshr (bAnd (bAnd (x0 - bAnd (bUshr x0 1) 1431655765) 858993459 + bAnd (bUshr (x0 - bAnd (bUshr x0 1) 1431655765) 2) 858993459 + bUshr (bAnd (x0 - bAnd (bUshr x0 1) 1431655765) 858993459 + bAnd (bUshr (x0 - bAnd (bUshr x0 1) 1431655765) 2) 858993459) 4) 252645135) 8 ∧ bAnd (bAnd (x0 - bAnd (bUshr x0 1) 1431655765) 858993459 + bAnd (bUshr (x0 - bAnd (bUshr x0 1) 1431655765) 2) 858993459 + bUshr (bAnd (x0 - bAnd (bUshr x0 1) 1431655765) 858993459 + bAnd (bUshr (x0 - bAnd (bUshr x0 1) 1431655765) 2) 858993459) 4) 252645135 + bUshr (bAnd (bAnd (x0 - bAnd (bUshr x0 1) 1431655765) 858993459 + bAnd (bUshr (x0 - bAnd (bUshr x0 1) 1431655765) 2) 858993459 + bUshr (bAnd (x0 - bAnd (bUshr x0 1) 1431655765) 858993459 + bAnd (bUshr (x0 - bAnd (bUshr x0 1) 1431655765) 2) 858993459) 4) 252645135) 8 < 2147483648) ∧ (-2147483648 ≤ bAnd (bAnd (x0 - bAnd (bUshr x0 1) 1431655765) 858993459 + bAnd (bUshr (x0 - bAnd (bUshr x0 1) 1431655765) 2) 858993459 + bUshr (bAnd (x0 - bAnd (bUshr x0 1) 1431655765) 858993459 + bAnd (bUshr (x0 - bAnd (bUshr x0 1) 1431655765) 2) 858993459) 4) 252645135 + bUshr (bAnd (bAnd (x0 - bAnd (bUshr x0 1) 1431655765) 858993459 + bAnd (bUshr (x0 - bAnd (bUshr x0 1) 1431655765) 2) 858993459 + bUshr (bAnd (x0 - bAnd (bUshr x0 1) 1431655765) 858993459 + bAnd (bUshr (x0 - bAnd (bUshr x0 1) 1431655765) 2) 858993459) 4) 252645135) 8 + bUshr (bAnd (bAnd (x0 - bAnd (bUshr x0 1) 1431655765) 858993459 + bAnd (bUshr (x0 - bAnd (bUshr x0 1) 1431655765) 2) 858993459 + bUshr (bAnd (x0 - bAnd (bUshr x0 1) 1431655765) 858993459 + bAnd (bUshr (x0 - bAnd (bUshr x0 1) 1431655765) 2) 858993459) 4) 252645135 + bUshr (bAnd (bAnd (x0 - bAnd (bUshr x0 1) 1431655765) 858993459 + bAnd (bUshr (x0 - bAnd (bUshr x0 1) 1431655765) 2) 858993459 + bUshr (bAnd (x0 - bAnd (bUshr x0 1) 1431655765) 858993459 + bAnd (bUshr (x0 - bAnd (bUshr x0 1) 1431655765) 2) 858993459) 4) 252645135) 8) 16 ∧ bAnd (bAnd (x0 - bAnd (bUshr x0 1) 1431655765) 858993459 + bAnd (bUshr (x0 - bAnd (bUshr x0 1) 1431655765) 2) 858993459 + bUshr (bAnd (x0 - bAnd (bUshr x0 1) 1431655765) 858993459 + bAnd (bUshr (x0 - bAnd (bUshr x0 1) 1431655765) 2) 858993459) 4) 252645135 + bUshr (bAnd (bAnd (x0 - bAnd (bUshr x0 1) 1431655765) 858993459 + bAnd (bUshr (x0 - bAnd (bUshr x0 1) 1431655765) 2) 858993459 + bUshr (bAnd (x0 - bAnd (bUshr x0 1) 1431655765) 858993459 + bAnd (bUshr (x0 - bAnd (bUshr x0 1) 1431655765) 2) 858993459) 4) 252645135) 8 + bUshr (bAnd (bAnd (x0 - bAnd (bUshr x0 1) 1431655765) 858993459 + bAnd (bUshr (x0 - bAnd (bUshr x0 1) 1431655765) 2) 858993459 + bUshr (bAnd (x0 - bAnd (bUshr x0 1) 1431655765) 858993459 + bAnd (bUshr (x0 - bAnd (bUshr x0 1) 1431655765) 2) 858993459) 4) 252645135 + bUshr (bAnd (bAnd (x0 - bAnd (bUshr x0 1) 1431655765) 858993459 + bAnd (bUshr (x0 - bAnd (bUshr x0 1) 1431655765) 2) 858993459 + bUshr (bAnd (x0 - bAnd (bUshr x0 1) 1431655765) 858993459 + bAnd (bUshr (x0 - bAnd (bUshr x0 1) 1431655765) 2) 858993459) 4) 252645135) 8) 16 < 2147483648)) ∧ Q M (some (vI (bAnd (bAnd (bAnd (x0 - bAnd (bUshr x0 1) 1431655765) 858993459 + bAnd (bUshr (x0 - bAnd (bUshr x0 1) 1431655765) 2) 858993459 + bUshr (bAnd (x0 - bAnd (bUshr x0 1) 1431655765) 858993459 + bAnd (bUshr (x0 - bAnd (bUshr x0 1) 1431655765) 2) 858993459) 4) 252645135 + bUshr (bAnd (bAnd (x0 - bAnd (bUshr x0 1) 1431655765) 858993459 + bAnd (bUshr (x0 - bAnd (bUshr x0 1) 1431655765) 2) 858993459 + bUshr (bAnd (x0 - bAnd (bUshr x0 1) 1431655765) 858993459 + bAnd (bUshr (x0 - bAnd (bUshr x0 1) 1431655765) 2) 858993459) 4) 252645135) 8 + bUshr (bAnd (bAnd (x0 - bAnd (bUshr x0 1) 1431655765) 858993459 + bAnd (bUshr (x0 - bAnd (bUshr x0 1) 1431655765) 2) 858993459 + bUshr (bAnd (x0 - bAnd (bUshr x0 1) 1431655765) 858993459 + bAnd (bUshr (x0 - bAnd (bUshr x0 1) 1431655765) 2) 858993459) 4) 252645135 + bUshr (bAnd (bAnd (x0 - bAnd (bUshr x0 1) 1431655765) 858993459 + bAnd (bUshr (x0 - bAnd (bUshr x0 1) 1431655765) 2) 858993459 + bUshr (bAnd (x0 - bAnd (bUshr x0 1) 1431655765) 858993459 + bAnd (bUshr (x0 - bAnd (bUshr x0 1) 1431655765) 2) 858993459) 4) 252645135) 8) 16) 63))))) : Wq 1 0 0 mJ_bitCount 0 [iI x0] [] M Q := by
  obtain ⟨⟨s1, s2, s3, s4, s5⟩, H⟩ := H
  refine wq_iload_n (pc := 0) dJ_bitCount_0 rfl rfl ?_
  refine wq_iload_n (pc := 1) dJ_bitCount_1 rfl rfl ?_
  refine wq_iconst (pc := 2) dJ_bitCount_2 rfl ?_
  refine wq_iushr (pc := 3) dJ_bitCount_3 ?_
  refine wq_ldcw (pc := 4) (z := 1431655765) dJ_bitCount_4 kO_J_265 (by decide) ?_
  refine wq_iand (pc := 7) dJ_bitCount_7 ?_
  refine wq_isub (pc := 8) dJ_bitCount_8 ?_
  refine wq_re (x := (wr (x0 - bAnd (bUshr x0 1) 1431655765))) (y := (x0 - bAnd (bUshr x0 1) 1431655765)) (Eq.trans (wr_eq (by omega) (by omega)) (by omega)) ?_
  refine wq_istore_n (pc := 9) (lo' := [iI (x0 - bAnd (bUshr x0 1) 1431655765)]) dJ_bitCount_9 rfl rfl rfl ?_
  refine wq_iload_n (pc := 10) dJ_bitCount_10 rfl rfl ?_
  refine wq_ldcw (pc := 11) (z := 858993459) dJ_bitCount_11 kO_J_266 (by decide) ?_
  refine wq_iand (pc := 14) dJ_bitCount_14 ?_
  refine wq_iload_n (pc := 15) dJ_bitCount_15 rfl rfl ?_
  refine wq_iconst (pc := 16) dJ_bitCount_16 rfl ?_
  refine wq_iushr (pc := 17) dJ_bitCount_17 ?_
  refine wq_ldcw (pc := 18) (z := 858993459) dJ_bitCount_18 kO_J_266 (by decide) ?_
  refine wq_iand (pc := 21) dJ_bitCount_21 ?_
  refine wq_iadd (pc := 22) dJ_bitCount_22 ?_
  refine wq_re (x := (wr (bAnd (x0 - bAnd (bUshr x0 1) 1431655765) 858993459 + bAnd (bUshr (x0 - bAnd (bUshr x0 1) 1431655765) 2) 858993459))) (y := (bAnd (x0 - bAnd (bUshr x0 1) 1431655765) 858993459 + bAnd (bUshr (x0 - bAnd (bUshr x0 1) 1431655765) 2) 858993459)) (Eq.trans (wr_eq (by omega) (by omega)) (by omega)) ?_
  refine wq_istore_n (pc := 23) (lo' := [iI (bAnd (x0 - bAnd (bUshr x0 1) 1431655765) 858993459 + bAnd (bUshr (x0 - bAnd (bUshr x0 1) 1431655765) 2) 858993459)]) dJ_bitCount_23 rfl rfl rfl ?_
  refine wq_iload_n (pc := 24) dJ_bitCount_24 rfl rfl ?_
  refine wq_iload_n (pc := 25) dJ_bitCount_25 rfl rfl ?_
  refine wq_iconst (pc := 26) dJ_bitCount_26 rfl ?_
  refine wq_iushr (pc := 27) dJ_bitCount_27 ?_
  refine wq_iadd (pc := 28) dJ_bitCount_28 ?_
  refine wq_ldcw (pc := 29) (z := 252645135) dJ_bitCount_29 kO_J_267 (by decide) ?_
  refine wq_re2 (x := (wr (bAnd (x0 - bAnd (bUshr x0 1) 1431655765) 858993459 + bAnd (bUshr (x0 - bAnd (bUshr x0 1) 1431655765) 2) 858993459 + bUshr (bAnd (x0 - bAnd (bUshr x0 1) 1431655765) 858993459 + bAnd (bUshr (x0 - bAnd (bUshr x0 1) 1431655765) 2) 858993459) 4))) (y := (bAnd (x0 - bAnd (bUshr x0 1) 1431655765) 858993459 + bAnd (bUshr (x0 - bAnd (bUshr x0 1) 1431655765) 2) 858993459 + bUshr (bAnd (x0 - bAnd (bUshr x0 1) 1431655765) 858993459 + bAnd (bUshr (x0 - bAnd (bUshr x0 1) 1431655765) 2) 858993459) 4)) (Eq.trans (wr_eq (by omega) (by omega)) (by omega)) ?_
  refine wq_iand (pc := 32) dJ_bitCount_32 ?_
  refine wq_istore_n (pc := 33) (lo' := [iI (bAnd (bAnd (x0 - bAnd (bUshr x0 1) 1431655765) 858993459 + bAnd (bUshr (x0 - bAnd (bUshr x0 1) 1431655765) 2) 858993459 + bUshr (bAnd (x0 - bAnd (bUshr x0 1) 1431655765) 858993459 + bAnd (bUshr (x0 - bAnd (bUshr x0 1) 1431655765) 2) 858993459) 4) 252645135)]) dJ_bitCount_33 rfl rfl rfl ?_
  refine wq_iload_n (pc := 34) dJ_bitCount_34 rfl rfl ?_
  refine wq_iload_n (pc := 35) dJ_bitCount_35 rfl rfl ?_
  refine wq_bipush (pc := 36) dJ_bitCount_36 rfl ?_
  refine wq_iushr (pc := 38) dJ_bitCount_38 ?_
  refine wq_iadd (pc := 39) dJ_bitCount_39 ?_
  refine wq_re (x := (wr (bAnd (bAnd (x0 - bAnd (bUshr x0 1) 1431655765) 858993459 + bAnd (bUshr (x0 - bAnd (bUshr x0 1) 1431655765) 2) 858993459 + bUshr (bAnd (x0 - bAnd (bUshr x0 1) 1431655765) 858993459 + bAnd (bUshr (x0 - bAnd (bUshr x0 1) 1431655765) 2) 858993459) 4) 252645135 + bUshr (bAnd (bAnd (x0 - bAnd (bUshr x0 1) 1431655765) 858993459 + bAnd (bUshr (x0 - bAnd (bUshr x0 1) 1431655765) 2) 858993459 + bUshr (bAnd (x0 - bAnd (bUshr x0 1) 1431655765) 858993459 + bAnd (bUshr (x0 - bAnd (bUshr x0 1) 1431655765) 2) 858993459) 4) 252645135) 8))) (y := (bAnd (bAnd (x0 - bAnd (bUshr x0 1) 1431655765) 858993459 + bAnd (bUshr (x0 - bAnd (bUshr x0 1) 1431655765) 2) 858993459 + bUshr (bAnd (x0 - bAnd (bUshr x0 1) 1431655765) 858993459 + bAnd (bUshr (x0 - bAnd (bUshr x0 1) 1431655765) 2) 858993459) 4) 252645135 + bUshr (bAnd (bAnd (x0 - bAnd (bUshr x0 1) 1431655765) 858993459 + bAnd (bUshr (x0 - bAnd (bUshr x0 1) 1431655765) 2) 858993459 + bUshr (bAnd (x0 - bAnd (bUshr x0 1) 1431655765) 858993459 + bAnd (bUshr (x0 - bAnd (bUshr x0 1) 1431655765) 2) 858993459) 4) 252645135) 8)) (Eq.trans (wr_eq (by omega) (by omega)) (by omega)) ?_
  refine wq_istore_n (pc := 40) (lo' := [iI (bAnd (bAnd (x0 - bAnd (bUshr x0 1) 1431655765) 858993459 + bAnd (bUshr (x0 - bAnd (bUshr x0 1) 1431655765) 2) 858993459 + bUshr (bAnd (x0 - bAnd (bUshr x0 1) 1431655765) 858993459 + bAnd (bUshr (x0 - bAnd (bUshr x0 1) 1431655765) 2) 858993459) 4) 252645135 + bUshr (bAnd (bAnd (x0 - bAnd (bUshr x0 1) 1431655765) 858993459 + bAnd (bUshr (x0 - bAnd (bUshr x0 1) 1431655765) 2) 858993459 + bUshr (bAnd (x0 - bAnd (bUshr x0 1) 1431655765) 858993459 + bAnd (bUshr (x0 - bAnd (bUshr x0 1) 1431655765) 2) 858993459) 4) 252645135) 8)]) dJ_bitCount_40 rfl rfl rfl ?_
  refine wq_iload_n (pc := 41) dJ_bitCount_41 rfl rfl ?_
  refine wq_iload_n (pc := 42) dJ_bitCount_42 rfl rfl ?_
  refine wq_bipush (pc := 43) dJ_bitCount_43 rfl ?_
  refine wq_iushr (pc := 45) dJ_bitCount_45 ?_
  refine wq_iadd (pc := 46) dJ_bitCount_46 ?_
  refine wq_re (x := (wr (bAnd (bAnd (x0 - bAnd (bUshr x0 1) 1431655765) 858993459 + bAnd (bUshr (x0 - bAnd (bUshr x0 1) 1431655765) 2) 858993459 + bUshr (bAnd (x0 - bAnd (bUshr x0 1) 1431655765) 858993459 + bAnd (bUshr (x0 - bAnd (bUshr x0 1) 1431655765) 2) 858993459) 4) 252645135 + bUshr (bAnd (bAnd (x0 - bAnd (bUshr x0 1) 1431655765) 858993459 + bAnd (bUshr (x0 - bAnd (bUshr x0 1) 1431655765) 2) 858993459 + bUshr (bAnd (x0 - bAnd (bUshr x0 1) 1431655765) 858993459 + bAnd (bUshr (x0 - bAnd (bUshr x0 1) 1431655765) 2) 858993459) 4) 252645135) 8 + bUshr (bAnd (bAnd (x0 - bAnd (bUshr x0 1) 1431655765) 858993459 + bAnd (bUshr (x0 - bAnd (bUshr x0 1) 1431655765) 2) 858993459 + bUshr (bAnd (x0 - bAnd (bUshr x0 1) 1431655765) 858993459 + bAnd (bUshr (x0 - bAnd (bUshr x0 1) 1431655765) 2) 858993459) 4) 252645135 + bUshr (bAnd (bAnd (x0 - bAnd (bUshr x0 1) 1431655765) 858993459 + bAnd (bUshr (x0 - bAnd (bUshr x0 1) 1431655765) 2) 858993459 + bUshr (bAnd (x0 - bAnd (bUshr x0 1) 1431655765) 858993459 + bAnd (bUshr (x0 - bAnd (bUshr x0 1) 1431655765) 2) 858993459) 4) 252645135) 8) 16))) (y := (bAnd (bAnd (x0 - bAnd (bUshr x0 1) 1431655765) 858993459 + bAnd (bUshr (x0 - bAnd (bUshr x0 1) 1431655765) 2) 858993459 + bUshr (bAnd (x0 - bAnd (bUshr x0 1) 1431655765) 858993459 + bAnd (bUshr (x0 - bAnd (bUshr x0 1) 1431655765) 2) 858993459) 4) 252645135 + bUshr (bAnd (bAnd (x0 - bAnd (bUshr x0 1) 1431655765) 858993459 + bAnd (bUshr (x0 - bAnd (bUshr x0 1) 1431655765) 2) 858993459 + bUshr (bAnd (x0 - bAnd (bUshr x0 1) 1431655765) 858993459 + bAnd (bUshr (x0 - bAnd (bUshr x0 1) 1431655765) 2) 858993459) 4) 252645135) 8 + bUshr (bAnd (bAnd (x0 - bAnd (bUshr x0 1) 1431655765) 858993459 + bAnd (bUshr (x0 - bAnd (bUshr x0 1) 1431655765) 2) 858993459 + bUshr (bAnd (x0 - bAnd (bUshr x0 1) 1431655765) 858993459 + bAnd (bUshr (x0 - bAnd (bUshr x0 1) 1431655765) 2) 858993459) 4) 252645135 + bUshr (bAnd (bAnd (x0 - bAnd (bUshr x0 1) 1431655765) 858993459 + bAnd (bUshr (x0 - bAnd (bUshr x0 1) 1431655765) 2) 858993459 + bUshr (bAnd (x0 - bAnd (bUshr x0 1) 1431655765) 858993459 + bAnd (bUshr (x0 - bAnd (bUshr x0 1) 1431655765) 2) 858993459) 4) 252645135) 8) 16)) (Eq.trans (wr_eq (by omega) (by omega)) (by omega)) ?_
  refine wq_istore_n (pc := 47) (lo' := [iI (bAnd (bAnd (x0 - bAnd (bUshr x0 1) 1431655765) 858993459 + bAnd (bUshr (x0 - bAnd (bUshr x0 1) 1431655765) 2) 858993459 + bUshr (bAnd (x0 - bAnd (bUshr x0 1) 1431655765) 858993459 + bAnd (bUshr (x0 - bAnd (bUshr x0 1) 1431655765) 2) 858993459) 4) 252645135 + bUshr (bAnd (bAnd (x0 - bAnd (bUshr x0 1) 1431655765) 858993459 + bAnd (bUshr (x0 - bAnd (bUshr x0 1) 1431655765) 2) 858993459 + bUshr (bAnd (x0 - bAnd (bUshr x0 1) 1431655765) 858993459 + bAnd (bUshr (x0 - bAnd (bUshr x0 1) 1431655765) 2) 858993459) 4) 252645135) 8 + bUshr (bAnd (bAnd (x0 - bAnd (bUshr x0 1) 1431655765) 858993459 + bAnd (bUshr (x0 - bAnd (bUshr x0 1) 1431655765) 2) 858993459 + bUshr (bAnd (x0 - bAnd (bUshr x0 1) 1431655765) 858993459 + bAnd (bUshr (x0 - bAnd (bUshr x0 1) 1431655765) 2) 858993459) 4) 252645135 + bUshr (bAnd (bAnd (x0 - bAnd (bUshr x0 1) 1431655765) 858993459 + bAnd (bUshr (x0 - bAnd (bUshr x0 1) 1431655765) 2) 858993459 + bUshr (bAnd (x0 - bAnd (bUshr x0 1) 1431655765) 858993459 + bAnd (bUshr (x0 - bAnd (bUshr x0 1) 1431655765) 2) 858993459) 4) 252645135) 8) 16)]) dJ_bitCount_47 rfl rfl rfl ?_
  refine wq_iload_n (pc := 48) dJ_bitCount_48 rfl rfl ?_
  refine wq_bipush (pc := 49) dJ_bitCount_49 rfl ?_
  refine wq_iand (pc := 51) dJ_bitCount_51 ?_
  refine wq_ireturn (pc := 52) dJ_bitCount_52 trivial ?_
  exact H
set_option maxRecDepth 20000 in
theorem B_D_trace_0 {x1 : Int} {M : Mm} {Q : Mm → Option Mv → Prop} (hS : RefOK M) (H : ((-2147483648 ≤ gI M 66 1 - 1 ∧ gI M 66 1 - 1 < 2147483648) ∧ ((0 ≤ x1 ∧ x1 ≤ gI M 66 1 - 1 → ((0 ≤ x1 ∧ x1 < 40) ∧ Q M (some (vI (gI M 67 x1))))) ∧ (¬ (0 ≤ x1 ∧ x1 ≤ gI M 66 1 - 1) → Q (sI M 69 2 (wr (gI M 69 2 + 1))) (some (vI (-1000002))))))) : Wq 3 0 0 mD_trace 0 [iR 0, iI x1] [] M Q := by
  obtain ⟨s1, H⟩ := H
  refine wq_iload_n (pc := 0) dD_trace_0 rfl rfl ?_
  refine wq_iconst (pc := 1) dD_trace_1 rfl ?_
  refine wq_aload_n (pc := 2) dD_trace_2 rfl rfl ?_
  refine wq_getR (pc := 3) (z := 4) (b := 66) dD_trace_3 fO_D_36 sh_0 rfl rfl (rf_0_4 hS) ?_
  refine wq_getI (pc := 6) (z := 1) dD_trace_6 fO_D_312 sh_66 rfl rfl ?_
  refine wq_iconst (pc := 9) dD_trace_9 rfl ?_
  refine wq_isub (pc := 10) dD_trace_10 ?_
  refine wq_re (x := (wr (gI M 66 1 - 1))) (y := (gI M 66 1 - 1)) (Eq.trans (wr_eq (by omega) (by omega)) (by omega)) ?_
  refine wq_callS (d' := 1) (pc := 11) (as := [vI x1, vI 0, vI (gI M 66 1 - 1)]) (rest := []) (lo' := [iI x1, iI 0, iI (gI M 66 1 - 1)]) dD_trace_11 mO_D_within lS_D_65 rfl rfl rfl rfl rfl rfl ?_
  refine sp_D_within (fun c2 => ?_) (fun c2 => ?_)
  · have H := H.1 c2
    show Wq 3 0 0 mD_trace 14 [iR 0, iI x1] [vI 1] M _
    obtain ⟨s3, H⟩ := H
    refine wq_if_eq (pc := 14) (tgt := 29) dD_trace_14 (by decide) (fun q => absurd q (by decide)) (fun _ => ?_)
    refine wq_aload_n (pc := 17) dD_trace_17 rfl rfl ?_
    refine wq_getR (pc := 18) (z := 4) (b := 66) dD_trace_18 fO_D_36 sh_0 rfl rfl (rf_0_4 hS) ?_
    refine wq_getR (pc := 21) (z := 0) (b := 67) dD_trace_21 fO_D_313 sh_66 rfl rfl (rf_66_0 hS) ?_
    refine wq_iload_n (pc := 24) dD_trace_24 rfl rfl ?_
    refine wq_iald (pc := 25) dD_trace_25 sh_67 s3.1 s3.2 ?_
    refine wq_goto (pc := 26) (tgt := 35) dD_trace_26 (by decide) ?_
    refine wq_ireturn (pc := 35) dD_trace_35 trivial ?_
    exact H
  · have H := H.2 c2
    show Wq 3 0 0 mD_trace 14 [iR 0, iI x1] [vI 0] M _
    refine wq_if_eq (pc := 14) (tgt := 29) dD_trace_14 (by decide) (fun _ => ?_) (fun q => absurd (by decide) q)
    refine wq_aload_n (pc := 29) dD_trace_29 rfl rfl ?_
    refine wq_ldc (pc := 30) (z := (-1000002)) dD_trace_30 kO_D_125 (by decide) ?_
    refine wq_callV (d' := 2) (pc := 32) (as := [vI (-1000002)]) (rest := []) (lo' := [iR 0, iI ((-1000002)), none]) dD_trace_32 mO_D_finding lV_D_70 sh_0 (by decide) cl_10 rfl rfl rfl rfl rfl rfl ?_
    refine sp_D_finding (k := 2) (by decide) (by decide) (by decide) hS ?_
    show Wq 3 0 0 mD_trace 35 [iR 0, iI x1] [vI (-1000002)] (sI M 69 2 (wr (gI M 69 2 + 1))) _
    refine wq_ireturn (pc := 35) dD_trace_35 trivial ?_
    exact H
set_option maxRecDepth 20000 in
theorem B_M_trace_0 {x1 : Int} {M : Mm} {Q : Mm → Option Mv → Prop} (hS : RefOK M) (H : ((-2147483648 ≤ gI M 80 8 - 1 ∧ gI M 80 8 - 1 < 2147483648) ∧ ((0 ≤ x1 ∧ x1 ≤ gI M 80 8 - 1 → ((0 ≤ x1 ∧ x1 < 40) ∧ Q M (some (vI (gI M 87 x1))))) ∧ (¬ (0 ≤ x1 ∧ x1 ≤ gI M 80 8 - 1) → Q (sI M 83 2 (wr (gI M 83 2 + 1))) (some (vI (-1000002))))))) : Wq 2 0 0 mM_trace 0 [iR 80, iI x1] [] M Q := by
  obtain ⟨s1, H⟩ := H
  refine wq_iload_n (pc := 0) dM_trace_0 rfl rfl ?_
  refine wq_i2l (pc := 1) dM_trace_1 ?_
  refine wq_lconst (pc := 2) (x := 0) dM_trace_2 rfl rfl ?_
  refine wq_aload_n (pc := 3) dM_trace_3 rfl rfl ?_
  refine wq_getI (pc := 4) (z := 8) dM_trace_4 fO_M_286 sh_80 rfl rfl ?_
  refine wq_iconst (pc := 7) dM_trace_7 rfl ?_
  refine wq_isub (pc := 8) dM_trace_8 ?_
  refine wq_re (x := (wr (gI M 80 8 - 1))) (y := (gI M 80 8 - 1)) (Eq.trans (wr_eq (by omega) (by omega)) (by omega)) ?_
  refine wq_i2l (pc := 9) dM_trace_9 ?_
  refine wq_callS (d' := 1) (pc := 10) (as := [vL x1, vL 0, vL (gI M 80 8 - 1)]) (rest := []) (lo' := [iL x1, none, iL 0, none, iL (gI M 80 8 - 1), none]) dM_trace_10 mO_M_within lS_M_68 rfl rfl rfl rfl rfl rfl ?_
  refine sp_M_within (fun c2 => ?_) (fun c2 => ?_)
  · have H := H.1 c2
    show Wq 2 0 0 mM_trace 13 [iR 80, iI x1] [vI 1] M _
    obtain ⟨s3, H⟩ := H
    refine wq_if_eq (pc := 13) (tgt := 25) dM_trace_13 (by decide) (fun q => absurd q (by decide)) (fun _ => ?_)
    refine wq_aload_n (pc := 16) dM_trace_16 rfl rfl ?_
    refine wq_getR (pc := 17) (z := 7) (b := 87) dM_trace_17 fO_M_28 sh_80 rfl rfl (rf_80_7 hS) ?_
    refine wq_iload_n (pc := 20) dM_trace_20 rfl rfl ?_
    refine wq_iald (pc := 21) dM_trace_21 sh_87 s3.1 s3.2 ?_
    refine wq_goto (pc := 22) (tgt := 31) dM_trace_22 (by decide) ?_
    refine wq_ireturn (pc := 31) dM_trace_31 trivial ?_
    exact H
  · have H := H.2 c2
    show Wq 2 0 0 mM_trace 13 [iR 80, iI x1] [vI 0] M _
    refine wq_if_eq (pc := 13) (tgt := 25) dM_trace_13 (by decide) (fun _ => ?_) (fun q => absurd (by decide) q)
    refine wq_aload_n (pc := 25) dM_trace_25 rfl rfl ?_
    refine wq_ldc (pc := 26) (z := (-1000002)) dM_trace_26 kO_M_114 (by decide) ?_
    refine wq_callV (d' := 1) (pc := 28) (as := [vI (-1000002)]) (rest := []) (lo' := [iR 80, iI ((-1000002))]) dM_trace_28 mO_M_finding lV_M_79 sh_80 (by decide) cl_11 rfl rfl rfl rfl rfl rfl ?_
    refine sp_M_finding (k := 2) (by decide) (by decide) (by decide) hS ?_
    show Wq 2 0 0 mM_trace 31 [iR 80, iI x1] [vI (-1000002)] (sI M 83 2 (wr (gI M 83 2 + 1))) _
    refine wq_ireturn (pc := 31) dM_trace_31 trivial ?_
    exact H
set_option maxRecDepth 20000 in
theorem B_D_restore_0 {M : Mm} {Q : Mm → Option Mv → Prop} (hS : RefOK M) (H : ((¬ gI M 0 9 = 0 → Wq 2 0 0 mT_copy 0 [iR 1, iR 30] [] M (fun M' v => Wq 3 0 0 mD_restore 25 [iR 0] (v.toList ++ []) M' Q)) ∧ (gI M 0 9 = 0 → Q (sI M 69 2 (wr (gI M 69 2 + 1))) (some (vI (-1000002)))))) : Wq 3 0 0 mD_restore 0 [iR 0] [] M Q := by
  refine wq_aload_n (pc := 0) dD_restore_0 rfl rfl ?_
  refine wq_getI (pc := 1) (z := 9) dD_restore_1 fO_D_56 sh_0 rfl rfl ?_
  refine wq_if_ne (pc := 4) (tgt := 14) dD_restore_4 (by decide) (fun c1 => ?_) (fun c1 => ?_)
  · have H := H.1 c1
    refine wq_aload_n (pc := 14) dD_restore_14 rfl rfl ?_
    refine wq_getR (pc := 15) (z := 0) (b := 1) dD_restore_15 fO_D_12 sh_0 rfl rfl (rf_0_0 hS) ?_
    refine wq_aload_n (pc := 18) dD_restore_18 rfl rfl ?_
    refine wq_getR (pc := 19) (z := 1) (b := 30) dD_restore_19 fO_D_16 sh_0 rfl rfl (rf_0_1 hS) ?_
    refine wq_callV (d' := 2) (pc := 22) (as := [vR 30]) (rest := []) (lo' := [iR 1, iR 30]) dD_restore_22 mO_T_copy lV_D_332 sh_1 (by decide) cl_7 rfl rfl rfl rfl rfl rfl ?_
    exact H
  · have H := H.2 c1
    refine wq_aload_n (pc := 7) dD_restore_7 rfl rfl ?_
    refine wq_ldc (pc := 8) (z := (-1000002)) dD_restore_8 kO_D_125 (by decide) ?_
    refine wq_callV (d' := 2) (pc := 10) (as := [vI (-1000002)]) (rest := []) (lo' := [iR 0, iI ((-1000002)), none]) dD_restore_10 mO_D_finding lV_D_70 sh_0 (by decide) cl_10 rfl rfl rfl rfl rfl rfl ?_
    refine sp_D_finding (k := 2) (by decide) (by decide) (by decide) hS ?_
    show Wq 3 0 0 mD_restore 13 [iR 0] [vI (-1000002)] (sI M 69 2 (wr (gI M 69 2 + 1))) _
    refine wq_ireturn (pc := 13) dD_restore_13 trivial ?_
    exact H

set_option maxRecDepth 20000 in
theorem B_D_restore_25 {M : Mm} {Q : Mm → Option Mv → Prop} (hS : RefOK M) (H : Q M (some (vI (gI M 1 5)))) : Wq 3 0 0 mD_restore 25 [iR 0] [] M Q := by
  refine wq_aload_n (pc := 25) dD_restore_25 rfl rfl ?_
  refine wq_getR (pc := 26) (z := 0) (b := 1) dD_restore_26 fO_D_12 sh_0 rfl rfl (rf_0_0 hS) ?_
  refine wq_getI (pc := 29) (z := 5) dD_restore_29 fO_D_142 sh_1 rfl rfl ?_
  refine wq_ireturn (pc := 32) dD_restore_32 trivial ?_
  exact H
set_option maxRecDepth 20000 in
theorem B_M_restore_0 {M : Mm} {Q : Mm → Option Mv → Prop} (hS : RefOK M) (H : ((¬ gI M 80 2 = 0 → Wq 2 0 0 mM_restore 16 [iR 80, iI 0] [] M Q) ∧ (gI M 80 2 = 0 → Q (sI M 83 2 (wr (gI M 83 2 + 1))) (some (vI (-1000002)))))) : Wq 2 0 0 mM_restore 0 [iR 80, none] [] M Q := by
  refine wq_aload_n (pc := 0) dM_restore_0 rfl rfl ?_
  refine wq_getI (pc := 1) (z := 2) dM_restore_1 fO_M_310 sh_80 rfl rfl ?_
  refine wq_if_ne (pc := 4) (tgt := 14) dM_restore_4 (by decide) (fun c1 => ?_) (fun c1 => ?_)
  · have H := H.1 c1
    refine wq_iconst (pc := 14) dM_restore_14 rfl ?_
    refine wq_istore_n (pc := 15) (lo' := [iR 80, iI 0]) dM_restore_15 rfl rfl rfl ?_
    exact H
  · have H := H.2 c1
    refine wq_aload_n (pc := 7) dM_restore_7 rfl rfl ?_
    refine wq_ldc (pc := 8) (z := (-1000002)) dM_restore_8 kO_M_114 (by decide) ?_
    refine wq_callV (d' := 1) (pc := 10) (as := [vI (-1000002)]) (rest := []) (lo' := [iR 80, iI ((-1000002))]) dM_restore_10 mO_M_finding lV_M_79 sh_80 (by decide) cl_11 rfl rfl rfl rfl rfl rfl ?_
    refine sp_M_finding (k := 2) (by decide) (by decide) (by decide) hS ?_
    show Wq 2 0 0 mM_restore 13 [iR 80, none] [vI (-1000002)] (sI M 83 2 (wr (gI M 83 2 + 1))) _
    refine wq_ireturn (pc := 13) dM_restore_13 trivial ?_
    exact H

set_option maxRecDepth 20000 in
theorem B_M_restore_16 {x1 : Int} {M : Mm} {Q : Mm → Option Mv → Prop} (hS : RefOK M) (H : ((1993 ≤ x1 → Wq 1 0 0 mM_changed 0 [iR 80, none] [] M (fun M' v => Wq 2 0 0 mM_restore 45 [iR 80, iI x1] (v.toList ++ []) M' Q)) ∧ (¬ 1993 ≤ x1 → (((0 ≤ x1 ∧ x1 < 1993) ∧ (-2147483648 ≤ x1 + 1 ∧ x1 + 1 < 2147483648)) ∧ Wq 2 0 0 mM_restore 16 [iR 80, iI (x1 + 1)] [] (sI M 81 x1 (gI M 82 x1)) Q)))) : Wq 2 0 0 mM_restore 16 [iR 80, iI x1] [] M Q := by
  refine wq_iload_n (pc := 16) dM_restore_16 rfl rfl ?_
  refine wq_sipush (pc := 17) dM_restore_17 rfl ?_
  refine wq_icmp_ge (pc := 20) (tgt := 41) dM_restore_20 (by decide) (fun c1 => ?_) (fun c1 => ?_)
  · have H := H.1 c1
    refine wq_aload_n (pc := 41) dM_restore_41 rfl rfl ?_
    refine wq_callV (d' := 1) (pc := 42) (as := []) (rest := []) (lo' := [iR 80, none]) dM_restore_42 mO_M_changed lV_M_64 sh_80 (by decide) cl_11 rfl rfl rfl rfl rfl rfl ?_
    exact H
  · have H := H.2 c1
    obtain ⟨⟨s2, s3⟩, H⟩ := H
    refine wq_aload_n (pc := 23) dM_restore_23 rfl rfl ?_
    refine wq_getR (pc := 24) (z := 0) (b := 81) dM_restore_24 fO_M_9 sh_80 rfl rfl (rf_80_0 hS) ?_
    refine wq_iload_n (pc := 27) dM_restore_27 rfl rfl ?_
    refine wq_aload_n (pc := 28) dM_restore_28 rfl rfl ?_
    refine wq_getR (pc := 29) (z := 1) (b := 82) dM_restore_29 fO_M_13 sh_80 rfl rfl (rf_80_1 hS) ?_
    refine wq_iload_n (pc := 32) dM_restore_32 rfl rfl ?_
    refine wq_iald (pc := 33) dM_restore_33 sh_82 s2.1 s2.2 ?_
    refine wq_iast (pc := 34) dM_restore_34 sh_81 (by decide) s2.1 s2.2 ?_
    refine wq_iinc (pc := 35) (lo' := [iR 80, iI (x1 + 1)]) dM_restore_35 rfl rfl (by rw [show wr (x1 + 1) = x1 + 1 from (Eq.trans (wr_eq (by omega) (by omega)) (by omega))]; rfl) ?_
    refine wq_goto (pc := 38) (tgt := 16) dM_restore_38 (by decide) ?_
    exact H

set_option maxRecDepth 20000 in
theorem B_M_restore_45 {x1 : Int} {M : Mm} {Q : Mm → Option Mv → Prop} (hS : RefOK M) (H : Q M (some (vI (gI M 81 0)))) : Wq 2 0 0 mM_restore 45 [iR 80, iI x1] [] M Q := by
  refine wq_aload_n (pc := 45) dM_restore_45 rfl rfl ?_
  refine wq_getR (pc := 46) (z := 0) (b := 81) dM_restore_46 fO_M_9 sh_80 rfl rfl (rf_80_0 hS) ?_
  refine wq_iconst (pc := 49) dM_restore_49 rfl ?_
  refine wq_iald (pc := 50) dM_restore_50 sh_81 (by decide) (by decide) ?_
  refine wq_ireturn (pc := 51) dM_restore_51 trivial ?_
  exact H
set_option maxRecDepth 20000 in
theorem B_D_image_0 {M : Mm} {Q : Mm → Option Mv → Prop} (hS : RefOK M) (H : Wq 2 0 0 mT_copy 0 [iR 30, iR 1] [] M (fun M' v => Wq 3 0 0 mD_image 11 [iR 0] (v.toList ++ []) M' Q)) : Wq 3 0 0 mD_image 0 [iR 0] [] M Q := by
  refine wq_aload_n (pc := 0) dD_image_0 rfl rfl ?_
  refine wq_getR (pc := 1) (z := 1) (b := 30) dD_image_1 fO_D_16 sh_0 rfl rfl (rf_0_1 hS) ?_
  refine wq_aload_n (pc := 4) dD_image_4 rfl rfl ?_
  refine wq_getR (pc := 5) (z := 0) (b := 1) dD_image_5 fO_D_12 sh_0 rfl rfl (rf_0_0 hS) ?_
  refine wq_callV (d' := 2) (pc := 8) (as := [vR 1]) (rest := []) (lo' := [iR 30, iR 1]) dD_image_8 mO_T_copy lV_D_332 sh_30 (by decide) cl_7 rfl rfl rfl rfl rfl rfl ?_
  exact H

set_option maxRecDepth 20000 in
theorem B_D_image_11 {M : Mm} {Q : Mm → Option Mv → Prop} (H : Q (sI M 0 9 (wr (gI M 0 9 + 1))) (some (vI (wr (gI M 0 9 + 1))))) : Wq 3 0 0 mD_image 11 [iR 0] [] M Q := by
  refine wq_aload_n (pc := 11) dD_image_11 rfl rfl ?_
  refine wq_dup (pc := 12) dD_image_12 rfl ?_
  refine wq_getI (pc := 13) (z := 9) dD_image_13 fO_D_56 sh_0 rfl rfl ?_
  refine wq_iconst (pc := 16) dD_image_16 rfl ?_
  refine wq_iadd (pc := 17) dD_image_17 ?_
  refine wq_putI (pc := 18) (z := 9) dD_image_18 fW_D_56 sh_0 rfl rfl ?_
  refine wq_aload_n (pc := 21) dD_image_21 rfl rfl ?_
  refine wq_getI (pc := 22) (z := 9) dD_image_22 fO_D_56 sh_0 rfl rfl ?_
  refine wq_re (x := (gI (sI M 0 9 (wr (gI M 0 9 + 1))) 0 9)) (y := (wr (gI M 0 9 + 1))) rfl ?_
  refine wq_ireturn (pc := 25) dD_image_25 trivial ?_
  exact H
set_option maxRecDepth 20000 in
theorem B_M_image_0 {M : Mm} {Q : Mm → Option Mv → Prop} (H : Wq 1 0 0 mM_image 2 [iR 80, iI 0] [] M Q) : Wq 1 0 0 mM_image 0 [iR 80, none] [] M Q := by
  refine wq_iconst (pc := 0) dM_image_0 rfl ?_
  refine wq_istore_n (pc := 1) (lo' := [iR 80, iI 0]) dM_image_1 rfl rfl rfl ?_
  exact H

set_option maxRecDepth 20000 in
theorem B_M_image_2 {x1 : Int} {M : Mm} {Q : Mm → Option Mv → Prop} (hS : RefOK M) (H : ((1993 ≤ x1 → Q (sI M 80 2 (wr (gI M 80 2 + 1))) (some (vI (wr (gI M 80 2 + 1))))) ∧ (¬ 1993 ≤ x1 → ((0 ≤ x1 ∧ x1 < 1993) ∧ Wq 1 0 0 mM_image 2 [iR 80, iI (wr (x1 + 1))] [] (sI M 82 x1 (gI M 81 x1)) Q)))) : Wq 1 0 0 mM_image 2 [iR 80, iI x1] [] M Q := by
  refine wq_iload_n (pc := 2) dM_image_2 rfl rfl ?_
  refine wq_sipush (pc := 3) dM_image_3 rfl ?_
  refine wq_icmp_ge (pc := 6) (tgt := 27) dM_image_6 (by decide) (fun c1 => ?_) (fun c1 => ?_)
  · have H := H.1 c1
    refine wq_aload_n (pc := 27) dM_image_27 rfl rfl ?_
    refine wq_dup (pc := 28) dM_image_28 rfl ?_
    refine wq_getI (pc := 29) (z := 2) dM_image_29 fO_M_310 sh_80 rfl rfl ?_
    refine wq_iconst (pc := 32) dM_image_32 rfl ?_
    refine wq_iadd (pc := 33) dM_image_33 ?_
    refine wq_putI (pc := 34) (z := 2) dM_image_34 fW_M_310 sh_80 rfl rfl ?_
    refine wq_aload_n (pc := 37) dM_image_37 rfl rfl ?_
    refine wq_getI (pc := 38) (z := 2) dM_image_38 fO_M_310 sh_80 rfl rfl ?_
    refine wq_re (x := (gI (sI M 80 2 (wr (gI M 80 2 + 1))) 80 2)) (y := (wr (gI M 80 2 + 1))) rfl ?_
    refine wq_ireturn (pc := 41) dM_image_41 trivial ?_
    exact H
  · have H := H.2 c1
    obtain ⟨s2, H⟩ := H
    refine wq_aload_n (pc := 9) dM_image_9 rfl rfl ?_
    refine wq_getR (pc := 10) (z := 1) (b := 82) dM_image_10 fO_M_13 sh_80 rfl rfl (rf_80_1 hS) ?_
    refine wq_iload_n (pc := 13) dM_image_13 rfl rfl ?_
    refine wq_aload_n (pc := 14) dM_image_14 rfl rfl ?_
    refine wq_getR (pc := 15) (z := 0) (b := 81) dM_image_15 fO_M_9 sh_80 rfl rfl (rf_80_0 hS) ?_
    refine wq_iload_n (pc := 18) dM_image_18 rfl rfl ?_
    refine wq_iald (pc := 19) dM_image_19 sh_81 s2.1 s2.2 ?_
    refine wq_iast (pc := 20) dM_image_20 sh_82 (by decide) s2.1 s2.2 ?_
    refine wq_iinc (pc := 21) (lo' := [iR 80, iI (wr (x1 + 1))]) dM_image_21 rfl rfl rfl ?_
    refine wq_goto (pc := 24) (tgt := 2) dM_image_24 (by decide) ?_
    exact H
set_option maxRecDepth 20000 in
theorem B_M_sheet_0 {x1 x2 x3 : Int} {M : Mm} {Q : Mm → Option Mv → Prop} (hS : RefOK M) (H : ((0 ≤ x1 ∧ x1 ≤ 3 → ((x2 = 0 → ((x2 = 0 → ((x2 = 0 → ((0 ≤ x1 ∧ x1 < 4) ∧ ((¬ x2 = 0 → Wq 3 0 0 mM_sheet 82 [iR 80, iI x1, iI x2, iI x3, iI 0] [] (sI (sI M 84 x1 x2) 85 x1 x3) Q) ∧ (x2 = 0 → Wq 3 0 0 mM_sheet 82 [iR 80, iI x1, iI x2, iI x3, iI 0] [] (sI (sI M 84 x1 x2) 85 x1 0) Q)))) ∧ (¬ x2 = 0 → ((x3 ≤ 24 → ((0 ≤ x1 ∧ x1 < 4) ∧ ((¬ x2 = 0 → Wq 3 0 0 mM_sheet 82 [iR 80, iI x1, iI x2, iI x3, iI 0] [] (sI (sI M 84 x1 x2) 85 x1 x3) Q) ∧ (x2 = 0 → Wq 3 0 0 mM_sheet 82 [iR 80, iI x1, iI x2, iI x3, iI 0] [] (sI (sI M 84 x1 x2) 85 x1 0) Q)))) ∧ (¬ x3 ≤ 24 → Q (sI M 83 1 (wr (gI M 83 1 + 1))) (some (vI (-1000001)))))))) ∧ (¬ x2 = 0 → ((0 ≤ x3 → ((x2 = 0 → ((0 ≤ x1 ∧ x1 < 4) ∧ ((¬ x2 = 0 → Wq 3 0 0 mM_sheet 82 [iR 80, iI x1, iI x2, iI x3, iI 0] [] (sI (sI M 84 x1 x2) 85 x1 x3) Q) ∧ (x2 = 0 → Wq 3 0 0 mM_sheet 82 [iR 80, iI x1, iI x2, iI x3, iI 0] [] (sI (sI M 84 x1 x2) 85 x1 0) Q)))) ∧ (¬ x2 = 0 → ((x3 ≤ 24 → ((0 ≤ x1 ∧ x1 < 4) ∧ ((¬ x2 = 0 → Wq 3 0 0 mM_sheet 82 [iR 80, iI x1, iI x2, iI x3, iI 0] [] (sI (sI M 84 x1 x2) 85 x1 x3) Q) ∧ (x2 = 0 → Wq 3 0 0 mM_sheet 82 [iR 80, iI x1, iI x2, iI x3, iI 0] [] (sI (sI M 84 x1 x2) 85 x1 0) Q)))) ∧ (¬ x3 ≤ 24 → Q (sI M 83 1 (wr (gI M 83 1 + 1))) (some (vI (-1000001)))))))) ∧ (¬ 0 ≤ x3 → Q (sI M 83 3 (wr (gI M 83 3 + 1))) (some (vI (-1000003)))))))) ∧ (¬ x2 = 0 → ((x2 = 8 ∨ x2 = 16 ∨ x2 = 32 → ((x2 = 0 → ((x2 = 0 → ((0 ≤ x1 ∧ x1 < 4) ∧ ((¬ x2 = 0 → Wq 3 0 0 mM_sheet 82 [iR 80, iI x1, iI x2, iI x3, iI 0] [] (sI (sI M 84 x1 x2) 85 x1 x3) Q) ∧ (x2 = 0 → Wq 3 0 0 mM_sheet 82 [iR 80, iI x1, iI x2, iI x3, iI 0] [] (sI (sI M 84 x1 x2) 85 x1 0) Q)))) ∧ (¬ x2 = 0 → ((x3 ≤ 24 → ((0 ≤ x1 ∧ x1 < 4) ∧ ((¬ x2 = 0 → Wq 3 0 0 mM_sheet 82 [iR 80, iI x1, iI x2, iI x3, iI 0] [] (sI (sI M 84 x1 x2) 85 x1 x3) Q) ∧ (x2 = 0 → Wq 3 0 0 mM_sheet 82 [iR 80, iI x1, iI x2, iI x3, iI 0] [] (sI (sI M 84 x1 x2) 85 x1 0) Q)))) ∧ (¬ x3 ≤ 24 → Q (sI M 83 1 (wr (gI M 83 1 + 1))) (some (vI (-1000001)))))))) ∧ (¬ x2 = 0 → ((0 ≤ x3 → ((x2 = 0 → ((0 ≤ x1 ∧ x1 < 4) ∧ ((¬ x2 = 0 → Wq 3 0 0 mM_sheet 82 [iR 80, iI x1, iI x2, iI x3, iI 0] [] (sI (sI M 84 x1 x2) 85 x1 x3) Q) ∧ (x2 = 0 → Wq 3 0 0 mM_sheet 82 [iR 80, iI x1, iI x2, iI x3, iI 0] [] (sI (sI M 84 x1 x2) 85 x1 0) Q)))) ∧ (¬ x2 = 0 → ((x3 ≤ 24 → ((0 ≤ x1 ∧ x1 < 4) ∧ ((¬ x2 = 0 → Wq 3 0 0 mM_sheet 82 [iR 80, iI x1, iI x2, iI x3, iI 0] [] (sI (sI M 84 x1 x2) 85 x1 x3) Q) ∧ (x2 = 0 → Wq 3 0 0 mM_sheet 82 [iR 80, iI x1, iI x2, iI x3, iI 0] [] (sI (sI M 84 x1 x2) 85 x1 0) Q)))) ∧ (¬ x3 ≤ 24 → Q (sI M 83 1 (wr (gI M 83 1 + 1))) (some (vI (-1000001)))))))) ∧ (¬ 0 ≤ x3 → Q (sI M 83 3 (wr (gI M 83 3 + 1))) (some (vI (-1000003)))))))) ∧ (¬ (x2 = 8 ∨ x2 = 16 ∨ x2 = 32) → Q (sI M 83 1 (wr (gI M 83 1 + 1))) (some (vI (-1000001)))))))) ∧ (¬ (0 ≤ x1 ∧ x1 ≤ 3) → Q (sI M 83 1 (wr (gI M 83 1 + 1))) (some (vI (-1000001)))))) : Wq 3 0 0 mM_sheet 0 [iR 80, iI x1, iI x2, iI x3, none] [] M Q := by
  refine wq_iload_n (pc := 0) dM_sheet_0 rfl rfl ?_
  refine wq_callS (d' := 2) (pc := 1) (as := [vI x1]) (rest := []) (lo' := [iI x1]) dM_sheet_1 mO_M_isSheet lS_M_283 rfl rfl rfl rfl rfl rfl ?_
  refine sp_M_isSheet (fun c1 => ?_) (fun c1 => ?_)
  · have H := H.1 c1
    show Wq 3 0 0 mM_sheet 4 [iR 80, iI x1, iI x2, iI x3, none] [vI 1] M _
    refine wq_if_eq (pc := 4) (tgt := 18) dM_sheet_4 (by decide) (fun q => absurd q (by decide)) (fun _ => ?_)
    refine wq_iload_n (pc := 7) dM_sheet_7 rfl rfl ?_
    refine wq_if_eq (pc := 8) (tgt := 25) dM_sheet_8 (by decide) (fun c2 => ?_) (fun c2 => ?_)
    · have H := H.1 c2
      refine wq_iload_n (pc := 25) dM_sheet_25 rfl rfl ?_
      refine wq_if_eq (pc := 26) (tgt := 40) dM_sheet_26 (by decide) (fun c3 => ?_) (fun c3 => ?_)
      · have H := H.1 c3
        refine wq_iload_n (pc := 40) dM_sheet_40 rfl rfl ?_
        refine wq_if_eq (pc := 41) (tgt := 57) dM_sheet_41 (by decide) (fun c4 => ?_) (fun c4 => ?_)
        · have H := H.1 c4
          obtain ⟨s5, H⟩ := H
          refine wq_aload_n (pc := 57) dM_sheet_57 rfl rfl ?_
          refine wq_getR (pc := 58) (z := 4) (b := 84) dM_sheet_58 fO_M_19 sh_80 rfl rfl (rf_80_4 hS) ?_
          refine wq_iload_n (pc := 61) dM_sheet_61 rfl rfl ?_
          refine wq_iload_n (pc := 62) dM_sheet_62 rfl rfl ?_
          refine wq_iast (pc := 63) dM_sheet_63 sh_84 (by decide) s5.1 s5.2 ?_
          refine wq_aload_n (pc := 64) dM_sheet_64 rfl rfl ?_
          refine wq_getR (pc := 65) (z := 5) (b := 85) dM_sheet_65 fO_M_22 sh_80 rfl rfl (rf_80_5 hS) ?_
          refine wq_iload_n (pc := 68) dM_sheet_68 rfl rfl ?_
          refine wq_iload_n (pc := 69) dM_sheet_69 rfl rfl ?_
          refine wq_if_ne (pc := 70) (tgt := 77) dM_sheet_70 (by decide) (fun c6 => ?_) (fun c6 => ?_)
          · have H := H.1 c6
            refine wq_iload_n (pc := 77) dM_sheet_77 rfl rfl ?_
            refine wq_iast (pc := 78) dM_sheet_78 sh_85 (by decide) s5.1 s5.2 ?_
            refine wq_iconst (pc := 79) dM_sheet_79 rfl ?_
            refine wq_istore (pc := 80) (lo' := [iR 80, iI x1, iI x2, iI x3, iI 0]) dM_sheet_80 rfl rfl ?_
            exact H
          · have H := H.2 c6
            refine wq_iconst (pc := 73) dM_sheet_73 rfl ?_
            refine wq_goto (pc := 74) (tgt := 78) dM_sheet_74 (by decide) ?_
            refine wq_iast (pc := 78) dM_sheet_78 sh_85 (by decide) s5.1 s5.2 ?_
            refine wq_iconst (pc := 79) dM_sheet_79 rfl ?_
            refine wq_istore (pc := 80) (lo' := [iR 80, iI x1, iI x2, iI x3, iI 0]) dM_sheet_80 rfl rfl ?_
            exact H
        · have H := H.2 c4
          refine wq_iload_n (pc := 44) dM_sheet_44 rfl rfl ?_
          refine wq_bipush (pc := 45) dM_sheet_45 rfl ?_
          refine wq_icmp_le (pc := 47) (tgt := 57) dM_sheet_47 (by decide) (fun c7 => ?_) (fun c7 => ?_)
          · have H := H.1 c7
            obtain ⟨s8, H⟩ := H
            refine wq_aload_n (pc := 57) dM_sheet_57 rfl rfl ?_
            refine wq_getR (pc := 58) (z := 4) (b := 84) dM_sheet_58 fO_M_19 sh_80 rfl rfl (rf_80_4 hS) ?_
            refine wq_iload_n (pc := 61) dM_sheet_61 rfl rfl ?_
            refine wq_iload_n (pc := 62) dM_sheet_62 rfl rfl ?_
            refine wq_iast (pc := 63) dM_sheet_63 sh_84 (by decide) s8.1 s8.2 ?_
            refine wq_aload_n (pc := 64) dM_sheet_64 rfl rfl ?_
            refine wq_getR (pc := 65) (z := 5) (b := 85) dM_sheet_65 fO_M_22 sh_80 rfl rfl (rf_80_5 hS) ?_
            refine wq_iload_n (pc := 68) dM_sheet_68 rfl rfl ?_
            refine wq_iload_n (pc := 69) dM_sheet_69 rfl rfl ?_
            refine wq_if_ne (pc := 70) (tgt := 77) dM_sheet_70 (by decide) (fun c9 => ?_) (fun c9 => ?_)
            · have H := H.1 c9
              refine wq_iload_n (pc := 77) dM_sheet_77 rfl rfl ?_
              refine wq_iast (pc := 78) dM_sheet_78 sh_85 (by decide) s8.1 s8.2 ?_
              refine wq_iconst (pc := 79) dM_sheet_79 rfl ?_
              refine wq_istore (pc := 80) (lo' := [iR 80, iI x1, iI x2, iI x3, iI 0]) dM_sheet_80 rfl rfl ?_
              exact H
            · have H := H.2 c9
              refine wq_iconst (pc := 73) dM_sheet_73 rfl ?_
              refine wq_goto (pc := 74) (tgt := 78) dM_sheet_74 (by decide) ?_
              refine wq_iast (pc := 78) dM_sheet_78 sh_85 (by decide) s8.1 s8.2 ?_
              refine wq_iconst (pc := 79) dM_sheet_79 rfl ?_
              refine wq_istore (pc := 80) (lo' := [iR 80, iI x1, iI x2, iI x3, iI 0]) dM_sheet_80 rfl rfl ?_
              exact H
          · have H := H.2 c7
            refine wq_aload_n (pc := 50) dM_sheet_50 rfl rfl ?_
            refine wq_ldc (pc := 51) (z := (-1000001)) dM_sheet_51 kO_M_78 (by decide) ?_
            refine wq_callV (d' := 1) (pc := 53) (as := [vI (-1000001)]) (rest := []) (lo' := [iR 80, iI ((-1000001))]) dM_sheet_53 mO_M_finding lV_M_79 sh_80 (by decide) cl_11 rfl rfl rfl rfl rfl rfl ?_
            refine sp_M_finding (k := 1) (by decide) (by decide) (by decide) hS ?_
            show Wq 3 0 0 mM_sheet 56 [iR 80, iI x1, iI x2, iI x3, none] [vI (-1000001)] (sI M 83 1 (wr (gI M 83 1 + 1))) _
            refine wq_ireturn (pc := 56) dM_sheet_56 trivial ?_
            exact H
      · have H := H.2 c3
        refine wq_iload_n (pc := 29) dM_sheet_29 rfl rfl ?_
        refine wq_if_ge (pc := 30) (tgt := 40) dM_sheet_30 (by decide) (fun c10 => ?_) (fun c10 => ?_)
        · have H := H.1 c10
          refine wq_iload_n (pc := 40) dM_sheet_40 rfl rfl ?_
          refine wq_if_eq (pc := 41) (tgt := 57) dM_sheet_41 (by decide) (fun c11 => ?_) (fun c11 => ?_)
          · have H := H.1 c11
            obtain ⟨s12, H⟩ := H
            refine wq_aload_n (pc := 57) dM_sheet_57 rfl rfl ?_
            refine wq_getR (pc := 58) (z := 4) (b := 84) dM_sheet_58 fO_M_19 sh_80 rfl rfl (rf_80_4 hS) ?_
            refine wq_iload_n (pc := 61) dM_sheet_61 rfl rfl ?_
            refine wq_iload_n (pc := 62) dM_sheet_62 rfl rfl ?_
            refine wq_iast (pc := 63) dM_sheet_63 sh_84 (by decide) s12.1 s12.2 ?_
            refine wq_aload_n (pc := 64) dM_sheet_64 rfl rfl ?_
            refine wq_getR (pc := 65) (z := 5) (b := 85) dM_sheet_65 fO_M_22 sh_80 rfl rfl (rf_80_5 hS) ?_
            refine wq_iload_n (pc := 68) dM_sheet_68 rfl rfl ?_
            refine wq_iload_n (pc := 69) dM_sheet_69 rfl rfl ?_
            refine wq_if_ne (pc := 70) (tgt := 77) dM_sheet_70 (by decide) (fun c13 => ?_) (fun c13 => ?_)
            · have H := H.1 c13
              refine wq_iload_n (pc := 77) dM_sheet_77 rfl rfl ?_
              refine wq_iast (pc := 78) dM_sheet_78 sh_85 (by decide) s12.1 s12.2 ?_
              refine wq_iconst (pc := 79) dM_sheet_79 rfl ?_
              refine wq_istore (pc := 80) (lo' := [iR 80, iI x1, iI x2, iI x3, iI 0]) dM_sheet_80 rfl rfl ?_
              exact H
            · have H := H.2 c13
              refine wq_iconst (pc := 73) dM_sheet_73 rfl ?_
              refine wq_goto (pc := 74) (tgt := 78) dM_sheet_74 (by decide) ?_
              refine wq_iast (pc := 78) dM_sheet_78 sh_85 (by decide) s12.1 s12.2 ?_
              refine wq_iconst (pc := 79) dM_sheet_79 rfl ?_
              refine wq_istore (pc := 80) (lo' := [iR 80, iI x1, iI x2, iI x3, iI 0]) dM_sheet_80 rfl rfl ?_
              exact H
          · have H := H.2 c11
            refine wq_iload_n (pc := 44) dM_sheet_44 rfl rfl ?_
            refine wq_bipush (pc := 45) dM_sheet_45 rfl ?_
            refine wq_icmp_le (pc := 47) (tgt := 57) dM_sheet_47 (by decide) (fun c14 => ?_) (fun c14 => ?_)
            · have H := H.1 c14
              obtain ⟨s15, H⟩ := H
              refine wq_aload_n (pc := 57) dM_sheet_57 rfl rfl ?_
              refine wq_getR (pc := 58) (z := 4) (b := 84) dM_sheet_58 fO_M_19 sh_80 rfl rfl (rf_80_4 hS) ?_
              refine wq_iload_n (pc := 61) dM_sheet_61 rfl rfl ?_
              refine wq_iload_n (pc := 62) dM_sheet_62 rfl rfl ?_
              refine wq_iast (pc := 63) dM_sheet_63 sh_84 (by decide) s15.1 s15.2 ?_
              refine wq_aload_n (pc := 64) dM_sheet_64 rfl rfl ?_
              refine wq_getR (pc := 65) (z := 5) (b := 85) dM_sheet_65 fO_M_22 sh_80 rfl rfl (rf_80_5 hS) ?_
              refine wq_iload_n (pc := 68) dM_sheet_68 rfl rfl ?_
              refine wq_iload_n (pc := 69) dM_sheet_69 rfl rfl ?_
              refine wq_if_ne (pc := 70) (tgt := 77) dM_sheet_70 (by decide) (fun c16 => ?_) (fun c16 => ?_)
              · have H := H.1 c16
                refine wq_iload_n (pc := 77) dM_sheet_77 rfl rfl ?_
                refine wq_iast (pc := 78) dM_sheet_78 sh_85 (by decide) s15.1 s15.2 ?_
                refine wq_iconst (pc := 79) dM_sheet_79 rfl ?_
                refine wq_istore (pc := 80) (lo' := [iR 80, iI x1, iI x2, iI x3, iI 0]) dM_sheet_80 rfl rfl ?_
                exact H
              · have H := H.2 c16
                refine wq_iconst (pc := 73) dM_sheet_73 rfl ?_
                refine wq_goto (pc := 74) (tgt := 78) dM_sheet_74 (by decide) ?_
                refine wq_iast (pc := 78) dM_sheet_78 sh_85 (by decide) s15.1 s15.2 ?_
                refine wq_iconst (pc := 79) dM_sheet_79 rfl ?_
                refine wq_istore (pc := 80) (lo' := [iR 80, iI x1, iI x2, iI x3, iI 0]) dM_sheet_80 rfl rfl ?_
                exact H
            · have H := H.2 c14
              refine wq_aload_n (pc := 50) dM_sheet_50 rfl rfl ?_
              refine wq_ldc (pc := 51) (z := (-1000001)) dM_sheet_51 kO_M_78 (by decide) ?_
              refine wq_callV (d' := 1) (pc := 53) (as := [vI (-1000001)]) (rest := []) (lo' := [iR 80, iI ((-1000001))]) dM_sheet_53 mO_M_finding lV_M_79 sh_80 (by decide) cl_11 rfl rfl rfl rfl rfl rfl ?_
              refine sp_M_finding (k := 1) (by decide) (by decide) (by decide) hS ?_
              show Wq 3 0 0 mM_sheet 56 [iR 80, iI x1, iI x2, iI x3, none] [vI (-1000001)] (sI M 83 1 (wr (gI M 83 1 + 1))) _
              refine wq_ireturn (pc := 56) dM_sheet_56 trivial ?_
              exact H
        · have H := H.2 c10
          refine wq_aload_n (pc := 33) dM_sheet_33 rfl rfl ?_
          refine wq_ldc (pc := 34) (z := (-1000003)) dM_sheet_34 kO_M_101 (by decide) ?_
          refine wq_callV (d' := 1) (pc := 36) (as := [vI (-1000003)]) (rest := []) (lo' := [iR 80, iI ((-1000003))]) dM_sheet_36 mO_M_finding lV_M_79 sh_80 (by decide) cl_11 rfl rfl rfl rfl rfl rfl ?_
          refine sp_M_finding (k := 3) (by decide) (by decide) (by decide) hS ?_
          show Wq 3 0 0 mM_sheet 39 [iR 80, iI x1, iI x2, iI x3, none] [vI (-1000003)] (sI M 83 3 (wr (gI M 83 3 + 1))) _
          refine wq_ireturn (pc := 39) dM_sheet_39 trivial ?_
          exact H
    · have H := H.2 c2
      refine wq_iload_n (pc := 11) dM_sheet_11 rfl rfl ?_
      refine wq_callS (d' := 1) (pc := 12) (as := [vI x2]) (rest := []) (lo' := [iI x2]) dM_sheet_12 mO_M_isWidth lS_M_307 rfl rfl rfl rfl rfl rfl ?_
      refine sp_M_isWidth (fun c17 => ?_) (fun c17 => ?_)
      · have H := H.1 c17
        show Wq 3 0 0 mM_sheet 15 [iR 80, iI x1, iI x2, iI x3, none] [vI 1] M _
        refine wq_if_ne (pc := 15) (tgt := 25) dM_sheet_15 (by decide) (fun _ => ?_) (fun q => absurd q (by decide))
        refine wq_iload_n (pc := 25) dM_sheet_25 rfl rfl ?_
        refine wq_if_eq (pc := 26) (tgt := 40) dM_sheet_26 (by decide) (fun c18 => ?_) (fun c18 => ?_)
        · have H := H.1 c18
          refine wq_iload_n (pc := 40) dM_sheet_40 rfl rfl ?_
          refine wq_if_eq (pc := 41) (tgt := 57) dM_sheet_41 (by decide) (fun c19 => ?_) (fun c19 => ?_)
          · have H := H.1 c19
            obtain ⟨s20, H⟩ := H
            refine wq_aload_n (pc := 57) dM_sheet_57 rfl rfl ?_
            refine wq_getR (pc := 58) (z := 4) (b := 84) dM_sheet_58 fO_M_19 sh_80 rfl rfl (rf_80_4 hS) ?_
            refine wq_iload_n (pc := 61) dM_sheet_61 rfl rfl ?_
            refine wq_iload_n (pc := 62) dM_sheet_62 rfl rfl ?_
            refine wq_iast (pc := 63) dM_sheet_63 sh_84 (by decide) s20.1 s20.2 ?_
            refine wq_aload_n (pc := 64) dM_sheet_64 rfl rfl ?_
            refine wq_getR (pc := 65) (z := 5) (b := 85) dM_sheet_65 fO_M_22 sh_80 rfl rfl (rf_80_5 hS) ?_
            refine wq_iload_n (pc := 68) dM_sheet_68 rfl rfl ?_
            refine wq_iload_n (pc := 69) dM_sheet_69 rfl rfl ?_
            refine wq_if_ne (pc := 70) (tgt := 77) dM_sheet_70 (by decide) (fun c21 => ?_) (fun c21 => ?_)
            · have H := H.1 c21
              refine wq_iload_n (pc := 77) dM_sheet_77 rfl rfl ?_
              refine wq_iast (pc := 78) dM_sheet_78 sh_85 (by decide) s20.1 s20.2 ?_
              refine wq_iconst (pc := 79) dM_sheet_79 rfl ?_
              refine wq_istore (pc := 80) (lo' := [iR 80, iI x1, iI x2, iI x3, iI 0]) dM_sheet_80 rfl rfl ?_
              exact H
            · have H := H.2 c21
              refine wq_iconst (pc := 73) dM_sheet_73 rfl ?_
              refine wq_goto (pc := 74) (tgt := 78) dM_sheet_74 (by decide) ?_
              refine wq_iast (pc := 78) dM_sheet_78 sh_85 (by decide) s20.1 s20.2 ?_
              refine wq_iconst (pc := 79) dM_sheet_79 rfl ?_
              refine wq_istore (pc := 80) (lo' := [iR 80, iI x1, iI x2, iI x3, iI 0]) dM_sheet_80 rfl rfl ?_
              exact H
          · have H := H.2 c19
            refine wq_iload_n (pc := 44) dM_sheet_44 rfl rfl ?_
            refine wq_bipush (pc := 45) dM_sheet_45 rfl ?_
            refine wq_icmp_le (pc := 47) (tgt := 57) dM_sheet_47 (by decide) (fun c22 => ?_) (fun c22 => ?_)
            · have H := H.1 c22
              obtain ⟨s23, H⟩ := H
              refine wq_aload_n (pc := 57) dM_sheet_57 rfl rfl ?_
              refine wq_getR (pc := 58) (z := 4) (b := 84) dM_sheet_58 fO_M_19 sh_80 rfl rfl (rf_80_4 hS) ?_
              refine wq_iload_n (pc := 61) dM_sheet_61 rfl rfl ?_
              refine wq_iload_n (pc := 62) dM_sheet_62 rfl rfl ?_
              refine wq_iast (pc := 63) dM_sheet_63 sh_84 (by decide) s23.1 s23.2 ?_
              refine wq_aload_n (pc := 64) dM_sheet_64 rfl rfl ?_
              refine wq_getR (pc := 65) (z := 5) (b := 85) dM_sheet_65 fO_M_22 sh_80 rfl rfl (rf_80_5 hS) ?_
              refine wq_iload_n (pc := 68) dM_sheet_68 rfl rfl ?_
              refine wq_iload_n (pc := 69) dM_sheet_69 rfl rfl ?_
              refine wq_if_ne (pc := 70) (tgt := 77) dM_sheet_70 (by decide) (fun c24 => ?_) (fun c24 => ?_)
              · have H := H.1 c24
                refine wq_iload_n (pc := 77) dM_sheet_77 rfl rfl ?_
                refine wq_iast (pc := 78) dM_sheet_78 sh_85 (by decide) s23.1 s23.2 ?_
                refine wq_iconst (pc := 79) dM_sheet_79 rfl ?_
                refine wq_istore (pc := 80) (lo' := [iR 80, iI x1, iI x2, iI x3, iI 0]) dM_sheet_80 rfl rfl ?_
                exact H
              · have H := H.2 c24
                refine wq_iconst (pc := 73) dM_sheet_73 rfl ?_
                refine wq_goto (pc := 74) (tgt := 78) dM_sheet_74 (by decide) ?_
                refine wq_iast (pc := 78) dM_sheet_78 sh_85 (by decide) s23.1 s23.2 ?_
                refine wq_iconst (pc := 79) dM_sheet_79 rfl ?_
                refine wq_istore (pc := 80) (lo' := [iR 80, iI x1, iI x2, iI x3, iI 0]) dM_sheet_80 rfl rfl ?_
                exact H
            · have H := H.2 c22
              refine wq_aload_n (pc := 50) dM_sheet_50 rfl rfl ?_
              refine wq_ldc (pc := 51) (z := (-1000001)) dM_sheet_51 kO_M_78 (by decide) ?_
              refine wq_callV (d' := 1) (pc := 53) (as := [vI (-1000001)]) (rest := []) (lo' := [iR 80, iI ((-1000001))]) dM_sheet_53 mO_M_finding lV_M_79 sh_80 (by decide) cl_11 rfl rfl rfl rfl rfl rfl ?_
              refine sp_M_finding (k := 1) (by decide) (by decide) (by decide) hS ?_
              show Wq 3 0 0 mM_sheet 56 [iR 80, iI x1, iI x2, iI x3, none] [vI (-1000001)] (sI M 83 1 (wr (gI M 83 1 + 1))) _
              refine wq_ireturn (pc := 56) dM_sheet_56 trivial ?_
              exact H
        · have H := H.2 c18
          refine wq_iload_n (pc := 29) dM_sheet_29 rfl rfl ?_
          refine wq_if_ge (pc := 30) (tgt := 40) dM_sheet_30 (by decide) (fun c25 => ?_) (fun c25 => ?_)
          · have H := H.1 c25
            refine wq_iload_n (pc := 40) dM_sheet_40 rfl rfl ?_
            refine wq_if_eq (pc := 41) (tgt := 57) dM_sheet_41 (by decide) (fun c26 => ?_) (fun c26 => ?_)
            · have H := H.1 c26
              obtain ⟨s27, H⟩ := H
              refine wq_aload_n (pc := 57) dM_sheet_57 rfl rfl ?_
              refine wq_getR (pc := 58) (z := 4) (b := 84) dM_sheet_58 fO_M_19 sh_80 rfl rfl (rf_80_4 hS) ?_
              refine wq_iload_n (pc := 61) dM_sheet_61 rfl rfl ?_
              refine wq_iload_n (pc := 62) dM_sheet_62 rfl rfl ?_
              refine wq_iast (pc := 63) dM_sheet_63 sh_84 (by decide) s27.1 s27.2 ?_
              refine wq_aload_n (pc := 64) dM_sheet_64 rfl rfl ?_
              refine wq_getR (pc := 65) (z := 5) (b := 85) dM_sheet_65 fO_M_22 sh_80 rfl rfl (rf_80_5 hS) ?_
              refine wq_iload_n (pc := 68) dM_sheet_68 rfl rfl ?_
              refine wq_iload_n (pc := 69) dM_sheet_69 rfl rfl ?_
              refine wq_if_ne (pc := 70) (tgt := 77) dM_sheet_70 (by decide) (fun c28 => ?_) (fun c28 => ?_)
              · have H := H.1 c28
                refine wq_iload_n (pc := 77) dM_sheet_77 rfl rfl ?_
                refine wq_iast (pc := 78) dM_sheet_78 sh_85 (by decide) s27.1 s27.2 ?_
                refine wq_iconst (pc := 79) dM_sheet_79 rfl ?_
                refine wq_istore (pc := 80) (lo' := [iR 80, iI x1, iI x2, iI x3, iI 0]) dM_sheet_80 rfl rfl ?_
                exact H
              · have H := H.2 c28
                refine wq_iconst (pc := 73) dM_sheet_73 rfl ?_
                refine wq_goto (pc := 74) (tgt := 78) dM_sheet_74 (by decide) ?_
                refine wq_iast (pc := 78) dM_sheet_78 sh_85 (by decide) s27.1 s27.2 ?_
                refine wq_iconst (pc := 79) dM_sheet_79 rfl ?_
                refine wq_istore (pc := 80) (lo' := [iR 80, iI x1, iI x2, iI x3, iI 0]) dM_sheet_80 rfl rfl ?_
                exact H
            · have H := H.2 c26
              refine wq_iload_n (pc := 44) dM_sheet_44 rfl rfl ?_
              refine wq_bipush (pc := 45) dM_sheet_45 rfl ?_
              refine wq_icmp_le (pc := 47) (tgt := 57) dM_sheet_47 (by decide) (fun c29 => ?_) (fun c29 => ?_)
              · have H := H.1 c29
                obtain ⟨s30, H⟩ := H
                refine wq_aload_n (pc := 57) dM_sheet_57 rfl rfl ?_
                refine wq_getR (pc := 58) (z := 4) (b := 84) dM_sheet_58 fO_M_19 sh_80 rfl rfl (rf_80_4 hS) ?_
                refine wq_iload_n (pc := 61) dM_sheet_61 rfl rfl ?_
                refine wq_iload_n (pc := 62) dM_sheet_62 rfl rfl ?_
                refine wq_iast (pc := 63) dM_sheet_63 sh_84 (by decide) s30.1 s30.2 ?_
                refine wq_aload_n (pc := 64) dM_sheet_64 rfl rfl ?_
                refine wq_getR (pc := 65) (z := 5) (b := 85) dM_sheet_65 fO_M_22 sh_80 rfl rfl (rf_80_5 hS) ?_
                refine wq_iload_n (pc := 68) dM_sheet_68 rfl rfl ?_
                refine wq_iload_n (pc := 69) dM_sheet_69 rfl rfl ?_
                refine wq_if_ne (pc := 70) (tgt := 77) dM_sheet_70 (by decide) (fun c31 => ?_) (fun c31 => ?_)
                · have H := H.1 c31
                  refine wq_iload_n (pc := 77) dM_sheet_77 rfl rfl ?_
                  refine wq_iast (pc := 78) dM_sheet_78 sh_85 (by decide) s30.1 s30.2 ?_
                  refine wq_iconst (pc := 79) dM_sheet_79 rfl ?_
                  refine wq_istore (pc := 80) (lo' := [iR 80, iI x1, iI x2, iI x3, iI 0]) dM_sheet_80 rfl rfl ?_
                  exact H
                · have H := H.2 c31
                  refine wq_iconst (pc := 73) dM_sheet_73 rfl ?_
                  refine wq_goto (pc := 74) (tgt := 78) dM_sheet_74 (by decide) ?_
                  refine wq_iast (pc := 78) dM_sheet_78 sh_85 (by decide) s30.1 s30.2 ?_
                  refine wq_iconst (pc := 79) dM_sheet_79 rfl ?_
                  refine wq_istore (pc := 80) (lo' := [iR 80, iI x1, iI x2, iI x3, iI 0]) dM_sheet_80 rfl rfl ?_
                  exact H
              · have H := H.2 c29
                refine wq_aload_n (pc := 50) dM_sheet_50 rfl rfl ?_
                refine wq_ldc (pc := 51) (z := (-1000001)) dM_sheet_51 kO_M_78 (by decide) ?_
                refine wq_callV (d' := 1) (pc := 53) (as := [vI (-1000001)]) (rest := []) (lo' := [iR 80, iI ((-1000001))]) dM_sheet_53 mO_M_finding lV_M_79 sh_80 (by decide) cl_11 rfl rfl rfl rfl rfl rfl ?_
                refine sp_M_finding (k := 1) (by decide) (by decide) (by decide) hS ?_
                show Wq 3 0 0 mM_sheet 56 [iR 80, iI x1, iI x2, iI x3, none] [vI (-1000001)] (sI M 83 1 (wr (gI M 83 1 + 1))) _
                refine wq_ireturn (pc := 56) dM_sheet_56 trivial ?_
                exact H
          · have H := H.2 c25
            refine wq_aload_n (pc := 33) dM_sheet_33 rfl rfl ?_
            refine wq_ldc (pc := 34) (z := (-1000003)) dM_sheet_34 kO_M_101 (by decide) ?_
            refine wq_callV (d' := 1) (pc := 36) (as := [vI (-1000003)]) (rest := []) (lo' := [iR 80, iI ((-1000003))]) dM_sheet_36 mO_M_finding lV_M_79 sh_80 (by decide) cl_11 rfl rfl rfl rfl rfl rfl ?_
            refine sp_M_finding (k := 3) (by decide) (by decide) (by decide) hS ?_
            show Wq 3 0 0 mM_sheet 39 [iR 80, iI x1, iI x2, iI x3, none] [vI (-1000003)] (sI M 83 3 (wr (gI M 83 3 + 1))) _
            refine wq_ireturn (pc := 39) dM_sheet_39 trivial ?_
            exact H
      · have H := H.2 c17
        show Wq 3 0 0 mM_sheet 15 [iR 80, iI x1, iI x2, iI x3, none] [vI 0] M _
        refine wq_if_ne (pc := 15) (tgt := 25) dM_sheet_15 (by decide) (fun q => absurd q (by decide)) (fun _ => ?_)
        refine wq_aload_n (pc := 18) dM_sheet_18 rfl rfl ?_
        refine wq_ldc (pc := 19) (z := (-1000001)) dM_sheet_19 kO_M_78 (by decide) ?_
        refine wq_callV (d' := 1) (pc := 21) (as := [vI (-1000001)]) (rest := []) (lo' := [iR 80, iI ((-1000001))]) dM_sheet_21 mO_M_finding lV_M_79 sh_80 (by decide) cl_11 rfl rfl rfl rfl rfl rfl ?_
        refine sp_M_finding (k := 1) (by decide) (by decide) (by decide) hS ?_
        show Wq 3 0 0 mM_sheet 24 [iR 80, iI x1, iI x2, iI x3, none] [vI (-1000001)] (sI M 83 1 (wr (gI M 83 1 + 1))) _
        refine wq_ireturn (pc := 24) dM_sheet_24 trivial ?_
        exact H
  · have H := H.2 c1
    show Wq 3 0 0 mM_sheet 4 [iR 80, iI x1, iI x2, iI x3, none] [vI 0] M _
    refine wq_if_eq (pc := 4) (tgt := 18) dM_sheet_4 (by decide) (fun _ => ?_) (fun q => absurd (by decide) q)
    refine wq_aload_n (pc := 18) dM_sheet_18 rfl rfl ?_
    refine wq_ldc (pc := 19) (z := (-1000001)) dM_sheet_19 kO_M_78 (by decide) ?_
    refine wq_callV (d' := 1) (pc := 21) (as := [vI (-1000001)]) (rest := []) (lo' := [iR 80, iI ((-1000001))]) dM_sheet_21 mO_M_finding lV_M_79 sh_80 (by decide) cl_11 rfl rfl rfl rfl rfl rfl ?_
    refine sp_M_finding (k := 1) (by decide) (by decide) (by decide) hS ?_
    show Wq 3 0 0 mM_sheet 24 [iR 80, iI x1, iI x2, iI x3, none] [vI (-1000001)] (sI M 83 1 (wr (gI M 83 1 + 1))) _
    refine wq_ireturn (pc := 24) dM_sheet_24 trivial ?_
    exact H

set_option maxRecDepth 20000 in
theorem B_M_sheet_82 {x1 x2 x3 x4 : Int} {M : Mm} {Q : Mm → Option Mv → Prop} (hS : RefOK M) (H : ((24 ≤ x4 → Q M (some (vI 1))) ∧ (¬ 24 ≤ x4 → (((0 ≤ 24 * x1 + x4 ∧ 24 * x1 + x4 < 96) ∧ (-2147483648 ≤ x4 + 1 ∧ x4 + 1 < 2147483648)) ∧ Wq 3 0 0 mM_sheet 82 [iR 80, iI x1, iI x2, iI x3, iI (x4 + 1)] [] (sI M 86 (24 * x1 + x4) 0) Q)))) : Wq 3 0 0 mM_sheet 82 [iR 80, iI x1, iI x2, iI x3, iI x4] [] M Q := by
  refine wq_iload (pc := 82) dM_sheet_82 rfl ?_
  refine wq_bipush (pc := 84) dM_sheet_84 rfl ?_
  refine wq_icmp_ge (pc := 86) (tgt := 108) dM_sheet_86 (by decide) (fun c1 => ?_) (fun c1 => ?_)
  · have H := H.1 c1
    refine wq_iconst (pc := 108) dM_sheet_108 rfl ?_
    refine wq_ireturn (pc := 109) dM_sheet_109 trivial ?_
    exact H
  · have H := H.2 c1
    obtain ⟨⟨s2, s3⟩, H⟩ := H
    refine wq_aload_n (pc := 89) dM_sheet_89 rfl rfl ?_
    refine wq_getR (pc := 90) (z := 6) (b := 86) dM_sheet_90 fO_M_25 sh_80 rfl rfl (rf_80_6 hS) ?_
    refine wq_bipush (pc := 93) dM_sheet_93 rfl ?_
    refine wq_iload_n (pc := 95) dM_sheet_95 rfl rfl ?_
    refine wq_imul (pc := 96) dM_sheet_96 ?_
    refine wq_iload (pc := 97) dM_sheet_97 rfl ?_
    refine wq_iadd (pc := 99) dM_sheet_99 ?_
    refine wq_iconst (pc := 100) dM_sheet_100 rfl ?_
    refine wq_re2 (x := (wr (wr (24 * x1) + x4))) (y := (24 * x1 + x4)) (by (try simp only [wr_al, wr_ar, wr_sl, wr_sr, wr_ml, wr_mr, wr_nn, wr_ww]); exact Eq.trans (wr_eq (by omega) (by omega)) (by omega)) ?_
    refine wq_iast (pc := 101) dM_sheet_101 sh_86 (by decide) s2.1 s2.2 ?_
    refine wq_iinc (pc := 102) (lo' := [iR 80, iI x1, iI x2, iI x3, iI (x4 + 1)]) dM_sheet_102 rfl rfl (by rw [show wr (x4 + 1) = x4 + 1 from (Eq.trans (wr_eq (by omega) (by omega)) (by omega))]; rfl) ?_
    refine wq_goto (pc := 105) (tgt := 82) dM_sheet_105 (by decide) ?_
    exact H
set_option maxRecDepth 20000 in
theorem B_M_put3_0 {x1 x2 x3 : Int} {M : Mm} {Q : Mm → Option Mv → Prop} (hS : RefOK M) (H : ((0 ≤ x1 ∧ x1 ≤ 3 → ((0 ≤ x1 ∧ x1 < 4) ∧ ((¬ gI M 84 x1 = 0 → ((-2147483648 ≤ gI M 85 x1 - 1 ∧ gI M 85 x1 - 1 < 2147483648) ∧ ((0 ≤ x2 ∧ x2 ≤ gI M 85 x1 - 1 → ((¬ gI M 84 x1 = 8 → ((¬ gI M 84 x1 = 16 → ((0 ≤ 24 * x1 + x2 ∧ 24 * x1 + x2 < 96) ∧ Q (sI M 86 (24 * x1 + x2) x3) (some (vI 1)))) ∧ (gI M 84 x1 = 16 → ((0 ≤ 24 * x1 + x2 ∧ 24 * x1 + x2 < 96) ∧ Q (sI M 86 (24 * x1 + x2) (bS x3)) (some (vI 1)))))) ∧ (gI M 84 x1 = 8 → ((0 ≤ 24 * x1 + x2 ∧ 24 * x1 + x2 < 96) ∧ Q (sI M 86 (24 * x1 + x2) (bB x3)) (some (vI 1)))))) ∧ (¬ (0 ≤ x2 ∧ x2 ≤ gI M 85 x1 - 1) → Q (sI M 83 1 (wr (gI M 83 1 + 1))) (some (vI (-1000001))))))) ∧ (gI M 84 x1 = 0 → Q (sI M 83 2 (wr (gI M 83 2 + 1))) (some (vI (-1000002))))))) ∧ (¬ (0 ≤ x1 ∧ x1 ≤ 3) → Q (sI M 83 1 (wr (gI M 83 1 + 1))) (some (vI (-1000001)))))) : Wq 3 0 0 mM_put3 0 [iR 80, iI x1, iI x2, iI x3] [] M Q := by
  refine wq_iload_n (pc := 0) dM_put3_0 rfl rfl ?_
  refine wq_callS (d' := 2) (pc := 1) (as := [vI x1]) (rest := []) (lo' := [iI x1]) dM_put3_1 mO_M_isSheet lS_M_283 rfl rfl rfl rfl rfl rfl ?_
  refine sp_M_isSheet (fun c1 => ?_) (fun c1 => ?_)
  · have H := H.1 c1
    show Wq 3 0 0 mM_put3 4 [iR 80, iI x1, iI x2, iI x3] [vI 1] M _
    obtain ⟨s2, H⟩ := H
    refine wq_if_ne (pc := 4) (tgt := 14) dM_put3_4 (by decide) (fun _ => ?_) (fun q => absurd q (by decide))
    refine wq_aload_n (pc := 14) dM_put3_14 rfl rfl ?_
    refine wq_getR (pc := 15) (z := 4) (b := 84) dM_put3_15 fO_M_19 sh_80 rfl rfl (rf_80_4 hS) ?_
    refine wq_iload_n (pc := 18) dM_put3_18 rfl rfl ?_
    refine wq_iald (pc := 19) dM_put3_19 sh_84 s2.1 s2.2 ?_
    refine wq_if_ne (pc := 20) (tgt := 30) dM_put3_20 (by decide) (fun c3 => ?_) (fun c3 => ?_)
    · have H := H.1 c3
      obtain ⟨s4, H⟩ := H
      refine wq_iload_n (pc := 30) dM_put3_30 rfl rfl ?_
      refine wq_i2l (pc := 31) dM_put3_31 ?_
      refine wq_lconst (pc := 32) (x := 0) dM_put3_32 rfl rfl ?_
      refine wq_aload_n (pc := 33) dM_put3_33 rfl rfl ?_
      refine wq_getR (pc := 34) (z := 5) (b := 85) dM_put3_34 fO_M_22 sh_80 rfl rfl (rf_80_5 hS) ?_
      refine wq_iload_n (pc := 37) dM_put3_37 rfl rfl ?_
      refine wq_iald (pc := 38) dM_put3_38 sh_85 s2.1 s2.2 ?_
      refine wq_iconst (pc := 39) dM_put3_39 rfl ?_
      refine wq_isub (pc := 40) dM_put3_40 ?_
      refine wq_re (x := (wr (gI M 85 x1 - 1))) (y := (gI M 85 x1 - 1)) (Eq.trans (wr_eq (by omega) (by omega)) (by omega)) ?_
      refine wq_i2l (pc := 41) dM_put3_41 ?_
      refine wq_callS (d' := 1) (pc := 42) (as := [vL x2, vL 0, vL (gI M 85 x1 - 1)]) (rest := []) (lo' := [iL x2, none, iL 0, none, iL (gI M 85 x1 - 1), none]) dM_put3_42 mO_M_within lS_M_68 rfl rfl rfl rfl rfl rfl ?_
      refine sp_M_within (fun c5 => ?_) (fun c5 => ?_)
      · have H := H.1 c5
        show Wq 3 0 0 mM_put3 45 [iR 80, iI x1, iI x2, iI x3] [vI 1] M _
        refine wq_if_ne (pc := 45) (tgt := 55) dM_put3_45 (by decide) (fun _ => ?_) (fun q => absurd q (by decide))
        refine wq_aload_n (pc := 55) dM_put3_55 rfl rfl ?_
        refine wq_getR (pc := 56) (z := 6) (b := 86) dM_put3_56 fO_M_25 sh_80 rfl rfl (rf_80_6 hS) ?_
        refine wq_bipush (pc := 59) dM_put3_59 rfl ?_
        refine wq_iload_n (pc := 61) dM_put3_61 rfl rfl ?_
        refine wq_imul (pc := 62) dM_put3_62 ?_
        refine wq_iload_n (pc := 63) dM_put3_63 rfl rfl ?_
        refine wq_iadd (pc := 64) dM_put3_64 ?_
        refine wq_aload_n (pc := 65) dM_put3_65 rfl rfl ?_
        refine wq_getR (pc := 66) (z := 4) (b := 84) dM_put3_66 fO_M_19 sh_80 rfl rfl (rf_80_4 hS) ?_
        refine wq_iload_n (pc := 69) dM_put3_69 rfl rfl ?_
        refine wq_iald (pc := 70) dM_put3_70 sh_84 s2.1 s2.2 ?_
        refine wq_bipush (pc := 71) dM_put3_71 rfl ?_
        refine wq_icmp_ne (pc := 73) (tgt := 81) dM_put3_73 (by decide) (fun c6 => ?_) (fun c6 => ?_)
        · have H := H.1 c6
          refine wq_aload_n (pc := 81) dM_put3_81 rfl rfl ?_
          refine wq_getR (pc := 82) (z := 4) (b := 84) dM_put3_82 fO_M_19 sh_80 rfl rfl (rf_80_4 hS) ?_
          refine wq_iload_n (pc := 85) dM_put3_85 rfl rfl ?_
          refine wq_iald (pc := 86) dM_put3_86 sh_84 s2.1 s2.2 ?_
          refine wq_bipush (pc := 87) dM_put3_87 rfl ?_
          refine wq_icmp_ne (pc := 89) (tgt := 97) dM_put3_89 (by decide) (fun c7 => ?_) (fun c7 => ?_)
          · have H := H.1 c7
            obtain ⟨s8, H⟩ := H
            refine wq_iload_n (pc := 97) dM_put3_97 rfl rfl ?_
            refine wq_re2 (x := (wr (wr (24 * x1) + x2))) (y := (24 * x1 + x2)) (by (try simp only [wr_al, wr_ar, wr_sl, wr_sr, wr_ml, wr_mr, wr_nn, wr_ww]); exact Eq.trans (wr_eq (by omega) (by omega)) (by omega)) ?_
            refine wq_iast (pc := 98) dM_put3_98 sh_86 (by decide) s8.1 s8.2 ?_
            refine wq_iconst (pc := 99) dM_put3_99 rfl ?_
            refine wq_ireturn (pc := 100) dM_put3_100 trivial ?_
            exact H
          · have H := H.2 c7
            obtain ⟨s9, H⟩ := H
            refine wq_iload_n (pc := 92) dM_put3_92 rfl rfl ?_
            refine wq_i2s (pc := 93) dM_put3_93 ?_
            refine wq_goto (pc := 94) (tgt := 98) dM_put3_94 (by decide) ?_
            refine wq_re2 (x := (wr (wr (24 * x1) + x2))) (y := (24 * x1 + x2)) (by (try simp only [wr_al, wr_ar, wr_sl, wr_sr, wr_ml, wr_mr, wr_nn, wr_ww]); exact Eq.trans (wr_eq (by omega) (by omega)) (by omega)) ?_
            refine wq_iast (pc := 98) dM_put3_98 sh_86 (by decide) s9.1 s9.2 ?_
            refine wq_iconst (pc := 99) dM_put3_99 rfl ?_
            refine wq_ireturn (pc := 100) dM_put3_100 trivial ?_
            exact H
        · have H := H.2 c6
          obtain ⟨s10, H⟩ := H
          refine wq_iload_n (pc := 76) dM_put3_76 rfl rfl ?_
          refine wq_i2b (pc := 77) dM_put3_77 ?_
          refine wq_goto (pc := 78) (tgt := 98) dM_put3_78 (by decide) ?_
          refine wq_re2 (x := (wr (wr (24 * x1) + x2))) (y := (24 * x1 + x2)) (by (try simp only [wr_al, wr_ar, wr_sl, wr_sr, wr_ml, wr_mr, wr_nn, wr_ww]); exact Eq.trans (wr_eq (by omega) (by omega)) (by omega)) ?_
          refine wq_iast (pc := 98) dM_put3_98 sh_86 (by decide) s10.1 s10.2 ?_
          refine wq_iconst (pc := 99) dM_put3_99 rfl ?_
          refine wq_ireturn (pc := 100) dM_put3_100 trivial ?_
          exact H
      · have H := H.2 c5
        show Wq 3 0 0 mM_put3 45 [iR 80, iI x1, iI x2, iI x3] [vI 0] M _
        refine wq_if_ne (pc := 45) (tgt := 55) dM_put3_45 (by decide) (fun q => absurd q (by decide)) (fun _ => ?_)
        refine wq_aload_n (pc := 48) dM_put3_48 rfl rfl ?_
        refine wq_ldc (pc := 49) (z := (-1000001)) dM_put3_49 kO_M_78 (by decide) ?_
        refine wq_callV (d' := 1) (pc := 51) (as := [vI (-1000001)]) (rest := []) (lo' := [iR 80, iI ((-1000001))]) dM_put3_51 mO_M_finding lV_M_79 sh_80 (by decide) cl_11 rfl rfl rfl rfl rfl rfl ?_
        refine sp_M_finding (k := 1) (by decide) (by decide) (by decide) hS ?_
        show Wq 3 0 0 mM_put3 54 [iR 80, iI x1, iI x2, iI x3] [vI (-1000001)] (sI M 83 1 (wr (gI M 83 1 + 1))) _
        refine wq_ireturn (pc := 54) dM_put3_54 trivial ?_
        exact H
    · have H := H.2 c3
      refine wq_aload_n (pc := 23) dM_put3_23 rfl rfl ?_
      refine wq_ldc (pc := 24) (z := (-1000002)) dM_put3_24 kO_M_114 (by decide) ?_
      refine wq_callV (d' := 1) (pc := 26) (as := [vI (-1000002)]) (rest := []) (lo' := [iR 80, iI ((-1000002))]) dM_put3_26 mO_M_finding lV_M_79 sh_80 (by decide) cl_11 rfl rfl rfl rfl rfl rfl ?_
      refine sp_M_finding (k := 2) (by decide) (by decide) (by decide) hS ?_
      show Wq 3 0 0 mM_put3 29 [iR 80, iI x1, iI x2, iI x3] [vI (-1000002)] (sI M 83 2 (wr (gI M 83 2 + 1))) _
      refine wq_ireturn (pc := 29) dM_put3_29 trivial ?_
      exact H
  · have H := H.2 c1
    show Wq 3 0 0 mM_put3 4 [iR 80, iI x1, iI x2, iI x3] [vI 0] M _
    refine wq_if_ne (pc := 4) (tgt := 14) dM_put3_4 (by decide) (fun q => absurd q (by decide)) (fun _ => ?_)
    refine wq_aload_n (pc := 7) dM_put3_7 rfl rfl ?_
    refine wq_ldc (pc := 8) (z := (-1000001)) dM_put3_8 kO_M_78 (by decide) ?_
    refine wq_callV (d' := 1) (pc := 10) (as := [vI (-1000001)]) (rest := []) (lo' := [iR 80, iI ((-1000001))]) dM_put3_10 mO_M_finding lV_M_79 sh_80 (by decide) cl_11 rfl rfl rfl rfl rfl rfl ?_
    refine sp_M_finding (k := 1) (by decide) (by decide) (by decide) hS ?_
    show Wq 3 0 0 mM_put3 13 [iR 80, iI x1, iI x2, iI x3] [vI (-1000001)] (sI M 83 1 (wr (gI M 83 1 + 1))) _
    refine wq_ireturn (pc := 13) dM_put3_13 trivial ?_
    exact H
set_option maxRecDepth 20000 in
theorem B_M_move_0 {x1 x2 x3 x4 x5 : Int} {M : Mm} {Q : Mm → Option Mv → Prop} (hS : RefOK M) (H : ((0 ≤ x1 ∧ x1 ≤ 3 → ((0 ≤ x3 ∧ x3 ≤ 3 → ((0 ≤ x1 ∧ x1 < 4) ∧ ((gI M 84 x1 = 0 → Q (sI M 83 2 (wr (gI M 83 2 + 1))) (some (vI (-1000002)))) ∧ (¬ gI M 84 x1 = 0 → ((0 ≤ x3 ∧ x3 < 4) ∧ ((¬ gI M 84 x3 = 0 → ((gI M 84 x1 = gI M 84 x3 → ((x5 < 0 → Q (sI M 83 1 (wr (gI M 83 1 + 1))) (some (vI (-1000001)))) ∧ (¬ x5 < 0 → ((x2 < 0 → Q (sI M 83 1 (wr (gI M 83 1 + 1))) (some (vI (-1000001)))) ∧ (¬ x2 < 0 → ((x4 < 0 → Q (sI M 83 1 (wr (gI M 83 1 + 1))) (some (vI (-1000001)))) ∧ (¬ x4 < 0 → ((0 < lCmp (wl (x2 + x5)) (gI M 85 x1) → Q (sI M 83 1 (wr (gI M 83 1 + 1))) (some (vI (-1000001)))) ∧ (¬ 0 < lCmp (wl (x2 + x5)) (gI M 85 x1) → ((lCmp (wl (x4 + x5)) (gI M 85 x3) ≤ 0 → Wq 3 0 0 mM_move 127 [iR 80, iI x1, iI x2, iI x3, iI x4, iI x5, iI 0] [] M Q) ∧ (¬ lCmp (wl (x4 + x5)) (gI M 85 x3) ≤ 0 → Q (sI M 83 1 (wr (gI M 83 1 + 1))) (some (vI (-1000001)))))))))))))) ∧ (¬ gI M 84 x1 = gI M 84 x3 → Q (sI M 83 5 (wr (gI M 83 5 + 1))) (some (vI (-1000005)))))) ∧ (gI M 84 x3 = 0 → Q (sI M 83 2 (wr (gI M 83 2 + 1))) (some (vI (-1000002)))))))))) ∧ (¬ (0 ≤ x3 ∧ x3 ≤ 3) → Q (sI M 83 1 (wr (gI M 83 1 + 1))) (some (vI (-1000001)))))) ∧ (¬ (0 ≤ x1 ∧ x1 ≤ 3) → Q (sI M 83 1 (wr (gI M 83 1 + 1))) (some (vI (-1000001)))))) : Wq 3 0 0 mM_move 0 [iR 80, iI x1, iI x2, iI x3, iI x4, iI x5, none] [] M Q := by
  refine wq_iload_n (pc := 0) dM_move_0 rfl rfl ?_
  refine wq_callS (d' := 2) (pc := 1) (as := [vI x1]) (rest := []) (lo' := [iI x1]) dM_move_1 mO_M_isSheet lS_M_283 rfl rfl rfl rfl rfl rfl ?_
  refine sp_M_isSheet (fun c1 => ?_) (fun c1 => ?_)
  · have H := H.1 c1
    show Wq 3 0 0 mM_move 4 [iR 80, iI x1, iI x2, iI x3, iI x4, iI x5, none] [vI 1] M _
    refine wq_if_eq (pc := 4) (tgt := 14) dM_move_4 (by decide) (fun q => absurd q (by decide)) (fun _ => ?_)
    refine wq_iload_n (pc := 7) dM_move_7 rfl rfl ?_
    refine wq_callS (d' := 2) (pc := 8) (as := [vI x3]) (rest := []) (lo' := [iI x3]) dM_move_8 mO_M_isSheet lS_M_283 rfl rfl rfl rfl rfl rfl ?_
    refine sp_M_isSheet (fun c2 => ?_) (fun c2 => ?_)
    · have H := H.1 c2
      show Wq 3 0 0 mM_move 11 [iR 80, iI x1, iI x2, iI x3, iI x4, iI x5, none] [vI 1] M _
      obtain ⟨s3, H⟩ := H
      refine wq_if_ne (pc := 11) (tgt := 21) dM_move_11 (by decide) (fun _ => ?_) (fun q => absurd q (by decide))
      refine wq_aload_n (pc := 21) dM_move_21 rfl rfl ?_
      refine wq_getR (pc := 22) (z := 4) (b := 84) dM_move_22 fO_M_19 sh_80 rfl rfl (rf_80_4 hS) ?_
      refine wq_iload_n (pc := 25) dM_move_25 rfl rfl ?_
      refine wq_iald (pc := 26) dM_move_26 sh_84 s3.1 s3.2 ?_
      refine wq_if_eq (pc := 27) (tgt := 39) dM_move_27 (by decide) (fun c4 => ?_) (fun c4 => ?_)
      · have H := H.1 c4
        refine wq_aload_n (pc := 39) dM_move_39 rfl rfl ?_
        refine wq_ldc (pc := 40) (z := (-1000002)) dM_move_40 kO_M_114 (by decide) ?_
        refine wq_callV (d' := 1) (pc := 42) (as := [vI (-1000002)]) (rest := []) (lo' := [iR 80, iI ((-1000002))]) dM_move_42 mO_M_finding lV_M_79 sh_80 (by decide) cl_11 rfl rfl rfl rfl rfl rfl ?_
        refine sp_M_finding (k := 2) (by decide) (by decide) (by decide) hS ?_
        show Wq 3 0 0 mM_move 45 [iR 80, iI x1, iI x2, iI x3, iI x4, iI x5, none] [vI (-1000002)] (sI M 83 2 (wr (gI M 83 2 + 1))) _
        refine wq_ireturn (pc := 45) dM_move_45 trivial ?_
        exact H
      · have H := H.2 c4
        obtain ⟨s5, H⟩ := H
        refine wq_aload_n (pc := 30) dM_move_30 rfl rfl ?_
        refine wq_getR (pc := 31) (z := 4) (b := 84) dM_move_31 fO_M_19 sh_80 rfl rfl (rf_80_4 hS) ?_
        refine wq_iload_n (pc := 34) dM_move_34 rfl rfl ?_
        refine wq_iald (pc := 35) dM_move_35 sh_84 s5.1 s5.2 ?_
        refine wq_if_ne (pc := 36) (tgt := 46) dM_move_36 (by decide) (fun c6 => ?_) (fun c6 => ?_)
        · have H := H.1 c6
          refine wq_aload_n (pc := 46) dM_move_46 rfl rfl ?_
          refine wq_getR (pc := 47) (z := 4) (b := 84) dM_move_47 fO_M_19 sh_80 rfl rfl (rf_80_4 hS) ?_
          refine wq_iload_n (pc := 50) dM_move_50 rfl rfl ?_
          refine wq_iald (pc := 51) dM_move_51 sh_84 s3.1 s3.2 ?_
          refine wq_aload_n (pc := 52) dM_move_52 rfl rfl ?_
          refine wq_getR (pc := 53) (z := 4) (b := 84) dM_move_53 fO_M_19 sh_80 rfl rfl (rf_80_4 hS) ?_
          refine wq_iload_n (pc := 56) dM_move_56 rfl rfl ?_
          refine wq_iald (pc := 57) dM_move_57 sh_84 s5.1 s5.2 ?_
          refine wq_icmp_eq (pc := 58) (tgt := 68) dM_move_58 (by decide) (fun c7 => ?_) (fun c7 => ?_)
          · have H := H.1 c7
            refine wq_iload (pc := 68) dM_move_68 rfl ?_
            refine wq_if_lt (pc := 70) (tgt := 117) dM_move_70 (by decide) (fun c8 => ?_) (fun c8 => ?_)
            · have H := H.1 c8
              refine wq_aload_n (pc := 117) dM_move_117 rfl rfl ?_
              refine wq_ldc (pc := 118) (z := (-1000001)) dM_move_118 kO_M_78 (by decide) ?_
              refine wq_callV (d' := 1) (pc := 120) (as := [vI (-1000001)]) (rest := []) (lo' := [iR 80, iI ((-1000001))]) dM_move_120 mO_M_finding lV_M_79 sh_80 (by decide) cl_11 rfl rfl rfl rfl rfl rfl ?_
              refine sp_M_finding (k := 1) (by decide) (by decide) (by decide) hS ?_
              show Wq 3 0 0 mM_move 123 [iR 80, iI x1, iI x2, iI x3, iI x4, iI x5, none] [vI (-1000001)] (sI M 83 1 (wr (gI M 83 1 + 1))) _
              refine wq_ireturn (pc := 123) dM_move_123 trivial ?_
              exact H
            · have H := H.2 c8
              refine wq_iload_n (pc := 73) dM_move_73 rfl rfl ?_
              refine wq_if_lt (pc := 74) (tgt := 117) dM_move_74 (by decide) (fun c9 => ?_) (fun c9 => ?_)
              · have H := H.1 c9
                refine wq_aload_n (pc := 117) dM_move_117 rfl rfl ?_
                refine wq_ldc (pc := 118) (z := (-1000001)) dM_move_118 kO_M_78 (by decide) ?_
                refine wq_callV (d' := 1) (pc := 120) (as := [vI (-1000001)]) (rest := []) (lo' := [iR 80, iI ((-1000001))]) dM_move_120 mO_M_finding lV_M_79 sh_80 (by decide) cl_11 rfl rfl rfl rfl rfl rfl ?_
                refine sp_M_finding (k := 1) (by decide) (by decide) (by decide) hS ?_
                show Wq 3 0 0 mM_move 123 [iR 80, iI x1, iI x2, iI x3, iI x4, iI x5, none] [vI (-1000001)] (sI M 83 1 (wr (gI M 83 1 + 1))) _
                refine wq_ireturn (pc := 123) dM_move_123 trivial ?_
                exact H
              · have H := H.2 c9
                refine wq_iload (pc := 77) dM_move_77 rfl ?_
                refine wq_if_lt (pc := 79) (tgt := 117) dM_move_79 (by decide) (fun c10 => ?_) (fun c10 => ?_)
                · have H := H.1 c10
                  refine wq_aload_n (pc := 117) dM_move_117 rfl rfl ?_
                  refine wq_ldc (pc := 118) (z := (-1000001)) dM_move_118 kO_M_78 (by decide) ?_
                  refine wq_callV (d' := 1) (pc := 120) (as := [vI (-1000001)]) (rest := []) (lo' := [iR 80, iI ((-1000001))]) dM_move_120 mO_M_finding lV_M_79 sh_80 (by decide) cl_11 rfl rfl rfl rfl rfl rfl ?_
                  refine sp_M_finding (k := 1) (by decide) (by decide) (by decide) hS ?_
                  show Wq 3 0 0 mM_move 123 [iR 80, iI x1, iI x2, iI x3, iI x4, iI x5, none] [vI (-1000001)] (sI M 83 1 (wr (gI M 83 1 + 1))) _
                  refine wq_ireturn (pc := 123) dM_move_123 trivial ?_
                  exact H
                · have H := H.2 c10
                  refine wq_iload_n (pc := 82) dM_move_82 rfl rfl ?_
                  refine wq_i2l (pc := 83) dM_move_83 ?_
                  refine wq_iload (pc := 84) dM_move_84 rfl ?_
                  refine wq_i2l (pc := 86) dM_move_86 ?_
                  refine wq_ladd (pc := 87) dM_move_87 ?_
                  refine wq_aload_n (pc := 88) dM_move_88 rfl rfl ?_
                  refine wq_getR (pc := 89) (z := 5) (b := 85) dM_move_89 fO_M_22 sh_80 rfl rfl (rf_80_5 hS) ?_
                  refine wq_iload_n (pc := 92) dM_move_92 rfl rfl ?_
                  refine wq_iald (pc := 93) dM_move_93 sh_85 s3.1 s3.2 ?_
                  refine wq_i2l (pc := 94) dM_move_94 ?_
                  refine wq_lcmp (pc := 95) dM_move_95 ?_
                  refine wq_if_gt (pc := 96) (tgt := 117) dM_move_96 (by decide) (fun c11 => ?_) (fun c11 => ?_)
                  · have H := H.1 c11
                    refine wq_aload_n (pc := 117) dM_move_117 rfl rfl ?_
                    refine wq_ldc (pc := 118) (z := (-1000001)) dM_move_118 kO_M_78 (by decide) ?_
                    refine wq_callV (d' := 1) (pc := 120) (as := [vI (-1000001)]) (rest := []) (lo' := [iR 80, iI ((-1000001))]) dM_move_120 mO_M_finding lV_M_79 sh_80 (by decide) cl_11 rfl rfl rfl rfl rfl rfl ?_
                    refine sp_M_finding (k := 1) (by decide) (by decide) (by decide) hS ?_
                    show Wq 3 0 0 mM_move 123 [iR 80, iI x1, iI x2, iI x3, iI x4, iI x5, none] [vI (-1000001)] (sI M 83 1 (wr (gI M 83 1 + 1))) _
                    refine wq_ireturn (pc := 123) dM_move_123 trivial ?_
                    exact H
                  · have H := H.2 c11
                    refine wq_iload (pc := 99) dM_move_99 rfl ?_
                    refine wq_i2l (pc := 101) dM_move_101 ?_
                    refine wq_iload (pc := 102) dM_move_102 rfl ?_
                    refine wq_i2l (pc := 104) dM_move_104 ?_
                    refine wq_ladd (pc := 105) dM_move_105 ?_
                    refine wq_aload_n (pc := 106) dM_move_106 rfl rfl ?_
                    refine wq_getR (pc := 107) (z := 5) (b := 85) dM_move_107 fO_M_22 sh_80 rfl rfl (rf_80_5 hS) ?_
                    refine wq_iload_n (pc := 110) dM_move_110 rfl rfl ?_
                    refine wq_iald (pc := 111) dM_move_111 sh_85 s5.1 s5.2 ?_
                    refine wq_i2l (pc := 112) dM_move_112 ?_
                    refine wq_lcmp (pc := 113) dM_move_113 ?_
                    refine wq_if_le (pc := 114) (tgt := 124) dM_move_114 (by decide) (fun c12 => ?_) (fun c12 => ?_)
                    · have H := H.1 c12
                      refine wq_iconst (pc := 124) dM_move_124 rfl ?_
                      refine wq_istore (pc := 125) (lo' := [iR 80, iI x1, iI x2, iI x3, iI x4, iI x5, iI 0]) dM_move_125 rfl rfl ?_
                      exact H
                    · have H := H.2 c12
                      refine wq_aload_n (pc := 117) dM_move_117 rfl rfl ?_
                      refine wq_ldc (pc := 118) (z := (-1000001)) dM_move_118 kO_M_78 (by decide) ?_
                      refine wq_callV (d' := 1) (pc := 120) (as := [vI (-1000001)]) (rest := []) (lo' := [iR 80, iI ((-1000001))]) dM_move_120 mO_M_finding lV_M_79 sh_80 (by decide) cl_11 rfl rfl rfl rfl rfl rfl ?_
                      refine sp_M_finding (k := 1) (by decide) (by decide) (by decide) hS ?_
                      show Wq 3 0 0 mM_move 123 [iR 80, iI x1, iI x2, iI x3, iI x4, iI x5, none] [vI (-1000001)] (sI M 83 1 (wr (gI M 83 1 + 1))) _
                      refine wq_ireturn (pc := 123) dM_move_123 trivial ?_
                      exact H
          · have H := H.2 c7
            refine wq_aload_n (pc := 61) dM_move_61 rfl rfl ?_
            refine wq_ldc (pc := 62) (z := (-1000005)) dM_move_62 kO_M_94 (by decide) ?_
            refine wq_callV (d' := 1) (pc := 64) (as := [vI (-1000005)]) (rest := []) (lo' := [iR 80, iI ((-1000005))]) dM_move_64 mO_M_finding lV_M_79 sh_80 (by decide) cl_11 rfl rfl rfl rfl rfl rfl ?_
            refine sp_M_finding (k := 5) (by decide) (by decide) (by decide) hS ?_
            show Wq 3 0 0 mM_move 67 [iR 80, iI x1, iI x2, iI x3, iI x4, iI x5, none] [vI (-1000005)] (sI M 83 5 (wr (gI M 83 5 + 1))) _
            refine wq_ireturn (pc := 67) dM_move_67 trivial ?_
            exact H
        · have H := H.2 c6
          refine wq_aload_n (pc := 39) dM_move_39 rfl rfl ?_
          refine wq_ldc (pc := 40) (z := (-1000002)) dM_move_40 kO_M_114 (by decide) ?_
          refine wq_callV (d' := 1) (pc := 42) (as := [vI (-1000002)]) (rest := []) (lo' := [iR 80, iI ((-1000002))]) dM_move_42 mO_M_finding lV_M_79 sh_80 (by decide) cl_11 rfl rfl rfl rfl rfl rfl ?_
          refine sp_M_finding (k := 2) (by decide) (by decide) (by decide) hS ?_
          show Wq 3 0 0 mM_move 45 [iR 80, iI x1, iI x2, iI x3, iI x4, iI x5, none] [vI (-1000002)] (sI M 83 2 (wr (gI M 83 2 + 1))) _
          refine wq_ireturn (pc := 45) dM_move_45 trivial ?_
          exact H
    · have H := H.2 c2
      show Wq 3 0 0 mM_move 11 [iR 80, iI x1, iI x2, iI x3, iI x4, iI x5, none] [vI 0] M _
      refine wq_if_ne (pc := 11) (tgt := 21) dM_move_11 (by decide) (fun q => absurd q (by decide)) (fun _ => ?_)
      refine wq_aload_n (pc := 14) dM_move_14 rfl rfl ?_
      refine wq_ldc (pc := 15) (z := (-1000001)) dM_move_15 kO_M_78 (by decide) ?_
      refine wq_callV (d' := 1) (pc := 17) (as := [vI (-1000001)]) (rest := []) (lo' := [iR 80, iI ((-1000001))]) dM_move_17 mO_M_finding lV_M_79 sh_80 (by decide) cl_11 rfl rfl rfl rfl rfl rfl ?_
      refine sp_M_finding (k := 1) (by decide) (by decide) (by decide) hS ?_
      show Wq 3 0 0 mM_move 20 [iR 80, iI x1, iI x2, iI x3, iI x4, iI x5, none] [vI (-1000001)] (sI M 83 1 (wr (gI M 83 1 + 1))) _
      refine wq_ireturn (pc := 20) dM_move_20 trivial ?_
      exact H
  · have H := H.2 c1
    show Wq 3 0 0 mM_move 4 [iR 80, iI x1, iI x2, iI x3, iI x4, iI x5, none] [vI 0] M _
    refine wq_if_eq (pc := 4) (tgt := 14) dM_move_4 (by decide) (fun _ => ?_) (fun q => absurd (by decide) q)
    refine wq_aload_n (pc := 14) dM_move_14 rfl rfl ?_
    refine wq_ldc (pc := 15) (z := (-1000001)) dM_move_15 kO_M_78 (by decide) ?_
    refine wq_callV (d' := 1) (pc := 17) (as := [vI (-1000001)]) (rest := []) (lo' := [iR 80, iI ((-1000001))]) dM_move_17 mO_M_finding lV_M_79 sh_80 (by decide) cl_11 rfl rfl rfl rfl rfl rfl ?_
    refine sp_M_finding (k := 1) (by decide) (by decide) (by decide) hS ?_
    show Wq 3 0 0 mM_move 20 [iR 80, iI x1, iI x2, iI x3, iI x4, iI x5, none] [vI (-1000001)] (sI M 83 1 (wr (gI M 83 1 + 1))) _
    refine wq_ireturn (pc := 20) dM_move_20 trivial ?_
    exact H

set_option maxRecDepth 20000 in
theorem B_M_move_127 {x1 x2 x3 x4 x5 x6 : Int} {M : Mm} {Q : Mm → Option Mv → Prop} (hS : RefOK M) (H : ((x5 ≤ x6 → Wq 3 0 0 mM_move 164 [iR 80, iI x1, iI x2, iI x3, iI x4, iI x5, iI 0] [] M Q) ∧ (¬ x5 ≤ x6 → (((0 ≤ 24 * x1 + x2 + x6 ∧ 24 * x1 + x2 + x6 < 96) ∧ (0 ≤ x6 ∧ x6 < 24) ∧ (-2147483648 ≤ x6 + 1 ∧ x6 + 1 < 2147483648)) ∧ Wq 3 0 0 mM_move 127 [iR 80, iI x1, iI x2, iI x3, iI x4, iI x5, iI (x6 + 1)] [] (sI M 98 x6 (gI M 86 (24 * x1 + x2 + x6))) Q)))) : Wq 3 0 0 mM_move 127 [iR 80, iI x1, iI x2, iI x3, iI x4, iI x5, iI x6] [] M Q := by
  refine wq_iload (pc := 127) dM_move_127 rfl ?_
  refine wq_iload (pc := 129) dM_move_129 rfl ?_
  refine wq_icmp_ge (pc := 131) (tgt := 161) dM_move_131 (by decide) (fun c1 => ?_) (fun c1 => ?_)
  · have H := H.1 c1
    refine wq_iconst (pc := 161) dM_move_161 rfl ?_
    refine wq_istore (pc := 162) (lo' := [iR 80, iI x1, iI x2, iI x3, iI x4, iI x5, iI 0]) dM_move_162 rfl rfl ?_
    exact H
  · have H := H.2 c1
    obtain ⟨⟨s2, s3, s4⟩, H⟩ := H
    refine wq_aload_n (pc := 134) dM_move_134 rfl rfl ?_
    refine wq_getR (pc := 135) (z := 25) (b := 98) dM_move_135 fO_M_61 sh_80 rfl rfl (rf_80_25 hS) ?_
    refine wq_iload (pc := 138) dM_move_138 rfl ?_
    refine wq_aload_n (pc := 140) dM_move_140 rfl rfl ?_
    refine wq_getR (pc := 141) (z := 6) (b := 86) dM_move_141 fO_M_25 sh_80 rfl rfl (rf_80_6 hS) ?_
    refine wq_bipush (pc := 144) dM_move_144 rfl ?_
    refine wq_iload_n (pc := 146) dM_move_146 rfl rfl ?_
    refine wq_imul (pc := 147) dM_move_147 ?_
    refine wq_iload_n (pc := 148) dM_move_148 rfl rfl ?_
    refine wq_iadd (pc := 149) dM_move_149 ?_
    refine wq_iload (pc := 150) dM_move_150 rfl ?_
    refine wq_iadd (pc := 152) dM_move_152 ?_
    refine wq_re (x := (wr (wr (wr (24 * x1) + x2) + x6))) (y := (24 * x1 + x2 + x6)) (by (try simp only [wr_al, wr_ar, wr_sl, wr_sr, wr_ml, wr_mr, wr_nn, wr_ww]); exact Eq.trans (wr_eq (by omega) (by omega)) (by omega)) ?_
    refine wq_iald (pc := 153) dM_move_153 sh_86 s2.1 s2.2 ?_
    refine wq_iast (pc := 154) dM_move_154 sh_98 (by decide) s3.1 s3.2 ?_
    refine wq_iinc (pc := 155) (lo' := [iR 80, iI x1, iI x2, iI x3, iI x4, iI x5, iI (x6 + 1)]) dM_move_155 rfl rfl (by rw [show wr (x6 + 1) = x6 + 1 from (Eq.trans (wr_eq (by omega) (by omega)) (by omega))]; rfl) ?_
    refine wq_goto (pc := 158) (tgt := 127) dM_move_158 (by decide) ?_
    exact H

set_option maxRecDepth 20000 in
theorem B_M_move_164 {x1 x2 x3 x4 x5 x6 : Int} {M : Mm} {Q : Mm → Option Mv → Prop} (hS : RefOK M) (H : ((x5 ≤ x6 → Q M (some (vI x5))) ∧ (¬ x5 ≤ x6 → (((0 ≤ x6 ∧ x6 < 24) ∧ (0 ≤ 24 * x3 + x4 + x6 ∧ 24 * x3 + x4 + x6 < 96) ∧ (-2147483648 ≤ x6 + 1 ∧ x6 + 1 < 2147483648)) ∧ Wq 3 0 0 mM_move 164 [iR 80, iI x1, iI x2, iI x3, iI x4, iI x5, iI (x6 + 1)] [] (sI M 86 (24 * x3 + x4 + x6) (gI M 98 x6)) Q)))) : Wq 3 0 0 mM_move 164 [iR 80, iI x1, iI x2, iI x3, iI x4, iI x5, iI x6] [] M Q := by
  refine wq_iload (pc := 164) dM_move_164 rfl ?_
  refine wq_iload (pc := 166) dM_move_166 rfl ?_
  refine wq_icmp_ge (pc := 168) (tgt := 199) dM_move_168 (by decide) (fun c1 => ?_) (fun c1 => ?_)
  · have H := H.1 c1
    refine wq_iload (pc := 199) dM_move_199 rfl ?_
    refine wq_ireturn (pc := 201) dM_move_201 trivial ?_
    exact H
  · have H := H.2 c1
    obtain ⟨⟨s2, s3, s4⟩, H⟩ := H
    refine wq_aload_n (pc := 171) dM_move_171 rfl rfl ?_
    refine wq_getR (pc := 172) (z := 6) (b := 86) dM_move_172 fO_M_25 sh_80 rfl rfl (rf_80_6 hS) ?_
    refine wq_bipush (pc := 175) dM_move_175 rfl ?_
    refine wq_iload_n (pc := 177) dM_move_177 rfl rfl ?_
    refine wq_imul (pc := 178) dM_move_178 ?_
    refine wq_iload (pc := 179) dM_move_179 rfl ?_
    refine wq_iadd (pc := 181) dM_move_181 ?_
    refine wq_iload (pc := 182) dM_move_182 rfl ?_
    refine wq_iadd (pc := 184) dM_move_184 ?_
    refine wq_aload_n (pc := 185) dM_move_185 rfl rfl ?_
    refine wq_getR (pc := 186) (z := 25) (b := 98) dM_move_186 fO_M_61 sh_80 rfl rfl (rf_80_25 hS) ?_
    refine wq_iload (pc := 189) dM_move_189 rfl ?_
    refine wq_iald (pc := 191) dM_move_191 sh_98 s2.1 s2.2 ?_
    refine wq_re2 (x := (wr (wr (wr (24 * x3) + x4) + x6))) (y := (24 * x3 + x4 + x6)) (by (try simp only [wr_al, wr_ar, wr_sl, wr_sr, wr_ml, wr_mr, wr_nn, wr_ww]); exact Eq.trans (wr_eq (by omega) (by omega)) (by omega)) ?_
    refine wq_iast (pc := 192) dM_move_192 sh_86 (by decide) s3.1 s3.2 ?_
    refine wq_iinc (pc := 193) (lo' := [iR 80, iI x1, iI x2, iI x3, iI x4, iI x5, iI (x6 + 1)]) dM_move_193 rfl rfl (by rw [show wr (x6 + 1) = x6 + 1 from (Eq.trans (wr_eq (by omega) (by omega)) (by omega))]; rfl) ?_
    refine wq_goto (pc := 196) (tgt := 164) dM_move_196 (by decide) ?_
    exact H
set_option maxRecDepth 20000 in
theorem B_D_feed_0 {x1 x3 : Int} {M : Mm} {Q : Mm → Option Mv → Prop} (hS : RefOK M) (H : ((1 ≤ x3 ∧ x3 ≤ 8 → ((-2147483648 ≤ gI M 20 5 + x3 ∧ gI M 20 5 + x3 < 2147483648) ∧ ((gI M 20 5 + x3 ≤ 60 → Wq 1 0 0 mC_take 0 [iR 20, iL x1, none, iI x3, none] [] M (fun M' v => Wq 3 0 0 mD_feed 53 [iR 0, iL x1, none, iI x3] (v.toList ++ []) M' Q)) ∧ (¬ gI M 20 5 + x3 ≤ 60 → Q (sI M 69 4 (wr (gI M 69 4 + 1))) (some (vI (-1000004))))))) ∧ (¬ (1 ≤ x3 ∧ x3 ≤ 8) → Q (sI M 69 1 (wr (gI M 69 1 + 1))) (some (vI (-1000001)))))) : Wq 3 0 0 mD_feed 0 [iR 0, iL x1, none, iI x3] [] M Q := by
  refine wq_iload_n (pc := 0) dD_feed_0 rfl rfl ?_
  refine wq_iconst (pc := 1) dD_feed_1 rfl ?_
  refine wq_bipush (pc := 2) dD_feed_2 rfl ?_
  refine wq_callS (d' := 1) (pc := 4) (as := [vI x3, vI 1, vI 8]) (rest := []) (lo' := [iI x3, iI 1, iI 8]) dD_feed_4 mO_D_within lS_D_65 rfl rfl rfl rfl rfl rfl ?_
  refine sp_D_within (fun c1 => ?_) (fun c1 => ?_)
  · have H := H.1 c1
    show Wq 3 0 0 mD_feed 7 [iR 0, iL x1, none, iI x3] [vI 1] M _
    obtain ⟨s2, H⟩ := H
    refine wq_if_ne (pc := 7) (tgt := 17) dD_feed_7 (by decide) (fun _ => ?_) (fun q => absurd q (by decide))
    refine wq_aload_n (pc := 17) dD_feed_17 rfl rfl ?_
    refine wq_getR (pc := 18) (z := 0) (b := 1) dD_feed_18 fO_D_12 sh_0 rfl rfl (rf_0_0 hS) ?_
    refine wq_getR (pc := 21) (z := 3) (b := 20) dD_feed_21 fO_D_227 sh_1 rfl rfl (rf_1_3 hS) ?_
    refine wq_getI (pc := 24) (z := 5) dD_feed_24 fO_D_231 sh_20 rfl rfl ?_
    refine wq_iload_n (pc := 27) dD_feed_27 rfl rfl ?_
    refine wq_iadd (pc := 28) dD_feed_28 ?_
    refine wq_bipush (pc := 29) dD_feed_29 rfl ?_
    refine wq_re2 (x := (wr (gI M 20 5 + x3))) (y := (gI M 20 5 + x3)) (Eq.trans (wr_eq (by omega) (by omega)) (by omega)) ?_
    refine wq_icmp_le (pc := 31) (tgt := 41) dD_feed_31 (by decide) (fun c3 => ?_) (fun c3 => ?_)
    · have H := H.1 c3
      refine wq_aload_n (pc := 41) dD_feed_41 rfl rfl ?_
      refine wq_getR (pc := 42) (z := 0) (b := 1) dD_feed_42 fO_D_12 sh_0 rfl rfl (rf_0_0 hS) ?_
      refine wq_getR (pc := 45) (z := 3) (b := 20) dD_feed_45 fO_D_227 sh_1 rfl rfl (rf_1_3 hS) ?_
      refine wq_lload_n (pc := 48) dD_feed_48 rfl rfl ?_
      refine wq_iload_n (pc := 49) dD_feed_49 rfl rfl ?_
      refine wq_callV (d' := 1) (pc := 50) (as := [vL x1, vI x3]) (rest := []) (lo' := [iR 20, iL x1, none, iI x3, none]) dD_feed_50 mO_C_take lV_D_236 sh_20 (by decide) cl_0 rfl rfl rfl rfl rfl rfl ?_
      exact H
    · have H := H.2 c3
      refine wq_aload_n (pc := 34) dD_feed_34 rfl rfl ?_
      refine wq_ldc (pc := 35) (z := (-1000004)) dD_feed_35 kO_D_83 (by decide) ?_
      refine wq_callV (d' := 2) (pc := 37) (as := [vI (-1000004)]) (rest := []) (lo' := [iR 0, iI ((-1000004)), none]) dD_feed_37 mO_D_finding lV_D_70 sh_0 (by decide) cl_10 rfl rfl rfl rfl rfl rfl ?_
      refine sp_D_finding (k := 4) (by decide) (by decide) (by decide) hS ?_
      show Wq 3 0 0 mD_feed 40 [iR 0, iL x1, none, iI x3] [vI (-1000004)] (sI M 69 4 (wr (gI M 69 4 + 1))) _
      refine wq_ireturn (pc := 40) dD_feed_40 trivial ?_
      exact H
  · have H := H.2 c1
    show Wq 3 0 0 mD_feed 7 [iR 0, iL x1, none, iI x3] [vI 0] M _
    refine wq_if_ne (pc := 7) (tgt := 17) dD_feed_7 (by decide) (fun q => absurd q (by decide)) (fun _ => ?_)
    refine wq_aload_n (pc := 10) dD_feed_10 rfl rfl ?_
    refine wq_ldc (pc := 11) (z := (-1000001)) dD_feed_11 kO_D_69 (by decide) ?_
    refine wq_callV (d' := 2) (pc := 13) (as := [vI (-1000001)]) (rest := []) (lo' := [iR 0, iI ((-1000001)), none]) dD_feed_13 mO_D_finding lV_D_70 sh_0 (by decide) cl_10 rfl rfl rfl rfl rfl rfl ?_
    refine sp_D_finding (k := 1) (by decide) (by decide) (by decide) hS ?_
    show Wq 3 0 0 mD_feed 16 [iR 0, iL x1, none, iI x3] [vI (-1000001)] (sI M 69 1 (wr (gI M 69 1 + 1))) _
    refine wq_ireturn (pc := 16) dD_feed_16 trivial ?_
    exact H

set_option maxRecDepth 20000 in
theorem B_D_feed_53 {x1 x3 y0 : Int} {M : Mm} {Q : Mm → Option Mv → Prop} (H : Q M (some (vI y0))) : Wq 3 0 0 mD_feed 53 [iR 0, iL x1, none, iI x3] [vI y0] M Q := by
  refine wq_ireturn (pc := 53) dD_feed_53 trivial ?_
  exact H
set_option maxRecDepth 20000 in
theorem B_M_feed_0 {x1 x3 : Int} {M : Mm} {Q : Mm → Option Mv → Prop} (hS : RefOK M) (H : ((1 ≤ x3 ∧ x3 ≤ 8 → ((-2147483648 ≤ gI M 81 7 + x3 ∧ gI M 81 7 + x3 < 2147483648) ∧ ((gI M 81 7 + x3 ≤ 60 → Wq 2 0 0 mM_feed 43 [iR 80, iL x1, none, iI x3, iI 0] [] M Q) ∧ (¬ gI M 81 7 + x3 ≤ 60 → Q (sI M 83 4 (wr (gI M 83 4 + 1))) (some (vI (-1000004))))))) ∧ (¬ (1 ≤ x3 ∧ x3 ≤ 8) → Q (sI M 83 1 (wr (gI M 83 1 + 1))) (some (vI (-1000001)))))) : Wq 2 0 0 mM_feed 0 [iR 80, iL x1, none, iI x3, none] [] M Q := by
  refine wq_iload_n (pc := 0) dM_feed_0 rfl rfl ?_
  refine wq_i2l (pc := 1) dM_feed_1 ?_
  refine wq_lconst (pc := 2) (x := 1) dM_feed_2 rfl rfl ?_
  refine wq_ldc2 (pc := 3) (z := 8) dM_feed_3 kO_M_188 (by decide) ?_
  refine wq_callS (d' := 1) (pc := 6) (as := [vL x3, vL 1, vL 8]) (rest := []) (lo' := [iL x3, none, iL 1, none, iL 8, none]) dM_feed_6 mO_M_within lS_M_68 rfl rfl rfl rfl rfl rfl ?_
  refine sp_M_within (fun c1 => ?_) (fun c1 => ?_)
  · have H := H.1 c1
    show Wq 2 0 0 mM_feed 9 [iR 80, iL x1, none, iI x3, none] [vI 1] M _
    obtain ⟨s2, H⟩ := H
    refine wq_if_ne (pc := 9) (tgt := 19) dM_feed_9 (by decide) (fun _ => ?_) (fun q => absurd q (by decide))
    refine wq_aload_n (pc := 19) dM_feed_19 rfl rfl ?_
    refine wq_getR (pc := 20) (z := 0) (b := 81) dM_feed_20 fO_M_9 sh_80 rfl rfl (rf_80_0 hS) ?_
    refine wq_bipush (pc := 23) dM_feed_23 rfl ?_
    refine wq_iald (pc := 25) dM_feed_25 sh_81 (by decide) (by decide) ?_
    refine wq_iload_n (pc := 26) dM_feed_26 rfl rfl ?_
    refine wq_iadd (pc := 27) dM_feed_27 ?_
    refine wq_bipush (pc := 28) dM_feed_28 rfl ?_
    refine wq_re2 (x := (wr (gI M 81 7 + x3))) (y := (gI M 81 7 + x3)) (Eq.trans (wr_eq (by omega) (by omega)) (by omega)) ?_
    refine wq_icmp_le (pc := 30) (tgt := 40) dM_feed_30 (by decide) (fun c3 => ?_) (fun c3 => ?_)
    · have H := H.1 c3
      refine wq_iconst (pc := 40) dM_feed_40 rfl ?_
      refine wq_istore (pc := 41) (lo' := [iR 80, iL x1, none, iI x3, iI 0]) dM_feed_41 rfl rfl ?_
      exact H
    · have H := H.2 c3
      refine wq_aload_n (pc := 33) dM_feed_33 rfl rfl ?_
      refine wq_ldc (pc := 34) (z := (-1000004)) dM_feed_34 kO_M_83 (by decide) ?_
      refine wq_callV (d' := 1) (pc := 36) (as := [vI (-1000004)]) (rest := []) (lo' := [iR 80, iI ((-1000004))]) dM_feed_36 mO_M_finding lV_M_79 sh_80 (by decide) cl_11 rfl rfl rfl rfl rfl rfl ?_
      refine sp_M_finding (k := 4) (by decide) (by decide) (by decide) hS ?_
      show Wq 2 0 0 mM_feed 39 [iR 80, iL x1, none, iI x3, none] [vI (-1000004)] (sI M 83 4 (wr (gI M 83 4 + 1))) _
      refine wq_ireturn (pc := 39) dM_feed_39 trivial ?_
      exact H
  · have H := H.2 c1
    show Wq 2 0 0 mM_feed 9 [iR 80, iL x1, none, iI x3, none] [vI 0] M _
    refine wq_if_ne (pc := 9) (tgt := 19) dM_feed_9 (by decide) (fun q => absurd q (by decide)) (fun _ => ?_)
    refine wq_aload_n (pc := 12) dM_feed_12 rfl rfl ?_
    refine wq_ldc (pc := 13) (z := (-1000001)) dM_feed_13 kO_M_78 (by decide) ?_
    refine wq_callV (d' := 1) (pc := 15) (as := [vI (-1000001)]) (rest := []) (lo' := [iR 80, iI ((-1000001))]) dM_feed_15 mO_M_finding lV_M_79 sh_80 (by decide) cl_11 rfl rfl rfl rfl rfl rfl ?_
    refine sp_M_finding (k := 1) (by decide) (by decide) (by decide) hS ?_
    show Wq 2 0 0 mM_feed 18 [iR 80, iL x1, none, iI x3, none] [vI (-1000001)] (sI M 83 1 (wr (gI M 83 1 + 1))) _
    refine wq_ireturn (pc := 18) dM_feed_18 trivial ?_
    exact H

set_option maxRecDepth 20000 in
theorem B_M_feed_43 {x1 x3 x4 : Int} {M : Mm} {Q : Mm → Option Mv → Prop} (hS : RefOK M) (H : ((x3 ≤ x4 → Q M (some (vI (gI M 81 7)))) ∧ (¬ x3 ≤ x4 → (((-2147483648 ≤ 8 * x4 ∧ 8 * x4 < 2147483648) ∧ (0 ≤ 1933 + gI M 81 7 ∧ 1933 + gI M 81 7 < 1993) ∧ 7 ≠ 1933 + gI M 81 7 ∧ (-2147483648 ≤ gI M 81 7 + 1 ∧ gI M 81 7 + 1 < 2147483648) ∧ (-2147483648 ≤ x4 + 1 ∧ x4 + 1 < 2147483648)) ∧ Wq 2 0 0 mM_feed 43 [iR 80, iL x1, none, iI x3, iI (x4 + 1)] [] (sI (sI M 81 (1933 + gI M 81 7) (wr (lAnd (lShr x1 (8 * x4)) 255))) 81 7 (gI M 81 7 + 1)) Q)))) : Wq 2 0 0 mM_feed 43 [iR 80, iL x1, none, iI x3, iI x4] [] M Q := by
  refine wq_iload (pc := 43) dM_feed_43 rfl ?_
  refine wq_iload_n (pc := 45) dM_feed_45 rfl rfl ?_
  refine wq_icmp_ge (pc := 46) (tgt := 94) dM_feed_46 (by decide) (fun c1 => ?_) (fun c1 => ?_)
  · have H := H.1 c1
    refine wq_aload_n (pc := 94) dM_feed_94 rfl rfl ?_
    refine wq_getR (pc := 95) (z := 0) (b := 81) dM_feed_95 fO_M_9 sh_80 rfl rfl (rf_80_0 hS) ?_
    refine wq_bipush (pc := 98) dM_feed_98 rfl ?_
    refine wq_iald (pc := 100) dM_feed_100 sh_81 (by decide) (by decide) ?_
    refine wq_ireturn (pc := 101) dM_feed_101 trivial ?_
    exact H
  · have H := H.2 c1
    obtain ⟨⟨s2, s3, s4, s5, s6⟩, H⟩ := H
    refine wq_aload_n (pc := 49) dM_feed_49 rfl rfl ?_
    refine wq_getR (pc := 50) (z := 0) (b := 81) dM_feed_50 fO_M_9 sh_80 rfl rfl (rf_80_0 hS) ?_
    refine wq_sipush (pc := 53) dM_feed_53 rfl ?_
    refine wq_aload_n (pc := 56) dM_feed_56 rfl rfl ?_
    refine wq_getR (pc := 57) (z := 0) (b := 81) dM_feed_57 fO_M_9 sh_80 rfl rfl (rf_80_0 hS) ?_
    refine wq_bipush (pc := 60) dM_feed_60 rfl ?_
    refine wq_iald (pc := 62) dM_feed_62 sh_81 (by decide) (by decide) ?_
    refine wq_iadd (pc := 63) dM_feed_63 ?_
    refine wq_lload_n (pc := 64) dM_feed_64 rfl rfl ?_
    refine wq_bipush (pc := 65) dM_feed_65 rfl ?_
    refine wq_iload (pc := 67) dM_feed_67 rfl ?_
    refine wq_imul (pc := 69) dM_feed_69 ?_
    refine wq_re (x := (wr (8 * x4))) (y := (8 * x4)) (Eq.trans (wr_eq (by omega) (by omega)) (by omega)) ?_
    refine wq_lshr (pc := 70) dM_feed_70 ?_
    refine wq_ldc2 (pc := 71) (z := 255) dM_feed_71 kO_M_190 (by decide) ?_
    refine wq_land (pc := 74) dM_feed_74 ?_
    refine wq_l2i (pc := 75) dM_feed_75 ?_
    refine wq_re2 (x := (wr (1933 + gI M 81 7))) (y := (1933 + gI M 81 7)) (Eq.trans (wr_eq (by omega) (by omega)) (by omega)) ?_
    refine wq_iast (pc := 76) dM_feed_76 sh_81 (by decide) s3.1 s3.2 ?_
    refine wq_aload_n (pc := 77) dM_feed_77 rfl rfl ?_
    refine wq_getR (pc := 78) (z := 0) (b := 81) dM_feed_78 fO_M_9 sh_80 rfl rfl (rf_80_0 hS) ?_
    refine wq_bipush (pc := 81) dM_feed_81 rfl ?_
    refine wq_dup2 (pc := 83) dM_feed_83 rfl rfl ?_
    refine wq_iald (pc := 84) dM_feed_84 sh_81 (by decide) (by decide) ?_
    refine wq_re (x := (gI (sI M 81 (1933 + gI M 81 7) (wr (lAnd (lShr x1 (8 * x4)) 255))) 81 7)) (y := (gI M 81 7)) (gI_n (Or.inr s4)) ?_
    refine wq_iconst (pc := 85) dM_feed_85 rfl ?_
    refine wq_iadd (pc := 86) dM_feed_86 ?_
    refine wq_re (x := (wr (gI M 81 7 + 1))) (y := (gI M 81 7 + 1)) (Eq.trans (wr_eq (by omega) (by omega)) (by omega)) ?_
    refine wq_iast (pc := 87) dM_feed_87 sh_81 (by decide) (by decide) (by decide) ?_
    refine wq_iinc (pc := 88) (lo' := [iR 80, iL x1, none, iI x3, iI (x4 + 1)]) dM_feed_88 rfl rfl (by rw [show wr (x4 + 1) = x4 + 1 from (Eq.trans (wr_eq (by omega) (by omega)) (by omega))]; rfl) ?_
    refine wq_goto (pc := 91) (tgt := 43) dM_feed_91 (by decide) ?_
    exact H
set_option maxRecDepth 20000 in
theorem B_C_take_0 {x1 x3 : Int} {M : Mm} {Q : Mm → Option Mv → Prop} (H : Wq 1 0 0 mC_take 3 [iR 20, iL x1, none, iI x3, iI 0] [] M Q) : Wq 1 0 0 mC_take 0 [iR 20, iL x1, none, iI x3, none] [] M Q := by
  refine wq_iconst (pc := 0) dC_take_0 rfl ?_
  refine wq_istore (pc := 1) (lo' := [iR 20, iL x1, none, iI x3, iI 0]) dC_take_1 rfl rfl ?_
  exact H

set_option maxRecDepth 20000 in
theorem B_C_take_3 {x1 x3 x4 : Int} {M : Mm} {Q : Mm → Option Mv → Prop} (hS : RefOK M) (H : ((x3 ≤ x4 → Q M (some (vI (gI M 20 5)))) ∧ (¬ x3 ≤ x4 → (((-2147483648 ≤ 8 * x4 ∧ 8 * x4 < 2147483648) ∧ (0 ≤ gI M 20 5 ∧ gI M 20 5 < 60) ∧ (-2147483648 ≤ gI M 20 5 + 1 ∧ gI M 20 5 + 1 < 2147483648) ∧ (-2147483648 ≤ x4 + 1 ∧ x4 + 1 < 2147483648)) ∧ Wq 1 0 0 mC_take 3 [iR 20, iL x1, none, iI x3, iI (x4 + 1)] [] (sI (sI M 21 (gI M 20 5) (bB (bB (wr (lUshr x1 (8 * x4)))))) 20 5 (gI M 20 5 + 1)) Q)))) : Wq 1 0 0 mC_take 3 [iR 20, iL x1, none, iI x3, iI x4] [] M Q := by
  refine wq_iload (pc := 3) dC_take_3 rfl ?_
  refine wq_iload_n (pc := 5) dC_take_5 rfl rfl ?_
  refine wq_icmp_ge (pc := 6) (tgt := 43) dC_take_6 (by decide) (fun c1 => ?_) (fun c1 => ?_)
  · have H := H.1 c1
    refine wq_aload_n (pc := 43) dC_take_43 rfl rfl ?_
    refine wq_getI (pc := 44) (z := 5) dC_take_44 fO_C_28 sh_20 rfl rfl ?_
    refine wq_ireturn (pc := 47) dC_take_47 trivial ?_
    exact H
  · have H := H.2 c1
    obtain ⟨⟨s2, s3, s4, s5⟩, H⟩ := H
    refine wq_aload_n (pc := 9) dC_take_9 rfl rfl ?_
    refine wq_getR (pc := 10) (z := 0) (b := 21) dC_take_10 fO_C_9 sh_20 rfl rfl (rf_20_0 hS) ?_
    refine wq_aload_n (pc := 13) dC_take_13 rfl rfl ?_
    refine wq_getI (pc := 14) (z := 5) dC_take_14 fO_C_28 sh_20 rfl rfl ?_
    refine wq_lload_n (pc := 17) dC_take_17 rfl rfl ?_
    refine wq_bipush (pc := 18) dC_take_18 rfl ?_
    refine wq_iload (pc := 20) dC_take_20 rfl ?_
    refine wq_imul (pc := 22) dC_take_22 ?_
    refine wq_re (x := (wr (8 * x4))) (y := (8 * x4)) (Eq.trans (wr_eq (by omega) (by omega)) (by omega)) ?_
    refine wq_lushr (pc := 23) dC_take_23 ?_
    refine wq_l2i (pc := 24) dC_take_24 ?_
    refine wq_i2b (pc := 25) dC_take_25 ?_
    refine wq_bast (pc := 26) dC_take_26 sh_21 s3.1 s3.2 ?_
    refine wq_aload_n (pc := 27) dC_take_27 rfl rfl ?_
    refine wq_dup (pc := 28) dC_take_28 rfl ?_
    refine wq_getI (pc := 29) (z := 5) dC_take_29 fO_C_28 sh_20 rfl rfl ?_
    refine wq_re (x := (gI (sI M 21 (gI M 20 5) (bB (bB (wr (lUshr x1 (8 * x4)))))) 20 5)) (y := (gI M 20 5)) rfl ?_
    refine wq_iconst (pc := 32) dC_take_32 rfl ?_
    refine wq_iadd (pc := 33) dC_take_33 ?_
    refine wq_re (x := (wr (gI M 20 5 + 1))) (y := (gI M 20 5 + 1)) (Eq.trans (wr_eq (by omega) (by omega)) (by omega)) ?_
    refine wq_putI (pc := 34) (z := 5) dC_take_34 fW_C_28 sh_20 rfl rfl ?_
    refine wq_iinc (pc := 37) (lo' := [iR 20, iL x1, none, iI x3, iI (x4 + 1)]) dC_take_37 rfl rfl (by rw [show wr (x4 + 1) = x4 + 1 from (Eq.trans (wr_eq (by omega) (by omega)) (by omega))]; rfl) ?_
    refine wq_goto (pc := 40) (tgt := 3) dC_take_40 (by decide) ?_
    exact H
set_option maxRecDepth 20000 in
theorem B_D_week_0 {x1 : Int} {M : Mm} {Q : Mm → Option Mv → Prop} (hS : RefOK M) (H : ((1 ≤ x1 ∧ x1 ≤ 127 → Wq 3 0 0 mY_turnWeek 0 [iR 2, iI x1, none] [] M (fun M' v => Wq 4 0 0 mD_week 28 [iR 0, iI x1] (v.toList ++ []) M' Q)) ∧ (¬ (1 ≤ x1 ∧ x1 ≤ 127) → Q (sI M 69 1 (wr (gI M 69 1 + 1))) (some (vI (-1000001)))))) : Wq 4 0 0 mD_week 0 [iR 0, iI x1] [] M Q := by
  refine wq_iload_n (pc := 0) dD_week_0 rfl rfl ?_
  refine wq_iconst (pc := 1) dD_week_1 rfl ?_
  refine wq_bipush (pc := 2) dD_week_2 rfl ?_
  refine wq_callS (d' := 1) (pc := 4) (as := [vI x1, vI 1, vI 127]) (rest := []) (lo' := [iI x1, iI 1, iI 127]) dD_week_4 mO_D_within lS_D_65 rfl rfl rfl rfl rfl rfl ?_
  refine sp_D_within (fun c1 => ?_) (fun c1 => ?_)
  · have H := H.1 c1
    show Wq 4 0 0 mD_week 7 [iR 0, iI x1] [vI 1] M _
    refine wq_if_ne (pc := 7) (tgt := 17) dD_week_7 (by decide) (fun _ => ?_) (fun q => absurd q (by decide))
    refine wq_aload_n (pc := 17) dD_week_17 rfl rfl ?_
    refine wq_getR (pc := 18) (z := 0) (b := 1) dD_week_18 fO_D_12 sh_0 rfl rfl (rf_0_0 hS) ?_
    refine wq_getR (pc := 21) (z := 0) (b := 2) dD_week_21 fO_D_129 sh_1 rfl rfl (rf_1_0 hS) ?_
    refine wq_iload_n (pc := 24) dD_week_24 rfl rfl ?_
    refine wq_callV (d' := 3) (pc := 25) (as := [vI x1]) (rest := []) (lo' := [iR 2, iI x1, none]) dD_week_25 mO_Y_turnWeek lV_D_133 sh_2 (by decide) cl_1 rfl rfl rfl rfl rfl rfl ?_
    exact H
  · have H := H.2 c1
    show Wq 4 0 0 mD_week 7 [iR 0, iI x1] [vI 0] M _
    refine wq_if_ne (pc := 7) (tgt := 17) dD_week_7 (by decide) (fun q => absurd q (by decide)) (fun _ => ?_)
    refine wq_aload_n (pc := 10) dD_week_10 rfl rfl ?_
    refine wq_ldc (pc := 11) (z := (-1000001)) dD_week_11 kO_D_69 (by decide) ?_
    refine wq_callV (d' := 2) (pc := 13) (as := [vI (-1000001)]) (rest := []) (lo' := [iR 0, iI ((-1000001)), none]) dD_week_13 mO_D_finding lV_D_70 sh_0 (by decide) cl_10 rfl rfl rfl rfl rfl rfl ?_
    refine sp_D_finding (k := 1) (by decide) (by decide) (by decide) hS ?_
    show Wq 4 0 0 mD_week 16 [iR 0, iI x1] [vI (-1000001)] (sI M 69 1 (wr (gI M 69 1 + 1))) _
    refine wq_ireturn (pc := 16) dD_week_16 trivial ?_
    exact H

set_option maxRecDepth 20000 in
theorem B_D_week_28 {x1 y0 : Int} {M : Mm} {Q : Mm → Option Mv → Prop} (H : Q M (some (vI y0))) : Wq 4 0 0 mD_week 28 [iR 0, iI x1] [vI y0] M Q := by
  refine wq_ireturn (pc := 28) dD_week_28 trivial ?_
  exact H
set_option maxRecDepth 20000 in
theorem B_M_week_0 {x1 : Int} {M : Mm} {Q : Mm → Option Mv → Prop} (hS : RefOK M) (H : ((1 ≤ x1 ∧ x1 ≤ 127 → Wq 1 0 0 mM_changed 0 [iR 80, none] [] (sI M 81 1 x1) (fun M' v => Wq 2 0 0 mM_week 37 [iR 80, iI x1, iI (gI M 81 1)] (v.toList ++ []) M' Q)) ∧ (¬ (1 ≤ x1 ∧ x1 ≤ 127) → Q (sI M 83 1 (wr (gI M 83 1 + 1))) (some (vI (-1000001)))))) : Wq 2 0 0 mM_week 0 [iR 80, iI x1, none] [] M Q := by
  refine wq_iload_n (pc := 0) dM_week_0 rfl rfl ?_
  refine wq_i2l (pc := 1) dM_week_1 ?_
  refine wq_lconst (pc := 2) (x := 1) dM_week_2 rfl rfl ?_
  refine wq_ldc2 (pc := 3) (z := 127) dM_week_3 kO_M_115 (by decide) ?_
  refine wq_callS (d' := 1) (pc := 6) (as := [vL x1, vL 1, vL 127]) (rest := []) (lo' := [iL x1, none, iL 1, none, iL 127, none]) dM_week_6 mO_M_within lS_M_68 rfl rfl rfl rfl rfl rfl ?_
  refine sp_M_within (fun c1 => ?_) (fun c1 => ?_)
  · have H := H.1 c1
    show Wq 2 0 0 mM_week 9 [iR 80, iI x1, none] [vI 1] M _
    refine wq_if_ne (pc := 9) (tgt := 19) dM_week_9 (by decide) (fun _ => ?_) (fun q => absurd q (by decide))
    refine wq_aload_n (pc := 19) dM_week_19 rfl rfl ?_
    refine wq_getR (pc := 20) (z := 0) (b := 81) dM_week_20 fO_M_9 sh_80 rfl rfl (rf_80_0 hS) ?_
    refine wq_iconst (pc := 23) dM_week_23 rfl ?_
    refine wq_iald (pc := 24) dM_week_24 sh_81 (by decide) (by decide) ?_
    refine wq_istore_n (pc := 25) (lo' := [iR 80, iI x1, iI (gI M 81 1)]) dM_week_25 rfl rfl rfl ?_
    refine wq_aload_n (pc := 26) dM_week_26 rfl rfl ?_
    refine wq_getR (pc := 27) (z := 0) (b := 81) dM_week_27 fO_M_9 sh_80 rfl rfl (rf_80_0 hS) ?_
    refine wq_iconst (pc := 30) dM_week_30 rfl ?_
    refine wq_iload_n (pc := 31) dM_week_31 rfl rfl ?_
    refine wq_iast (pc := 32) dM_week_32 sh_81 (by decide) (by decide) (by decide) ?_
    refine wq_aload_n (pc := 33) dM_week_33 rfl rfl ?_
    refine wq_callV (d' := 1) (pc := 34) (as := []) (rest := []) (lo' := [iR 80, none]) dM_week_34 mO_M_changed lV_M_64 sh_80 (by decide) cl_11 rfl rfl rfl rfl rfl rfl ?_
    exact H
  · have H := H.2 c1
    show Wq 2 0 0 mM_week 9 [iR 80, iI x1, none] [vI 0] M _
    refine wq_if_ne (pc := 9) (tgt := 19) dM_week_9 (by decide) (fun q => absurd q (by decide)) (fun _ => ?_)
    refine wq_aload_n (pc := 12) dM_week_12 rfl rfl ?_
    refine wq_ldc (pc := 13) (z := (-1000001)) dM_week_13 kO_M_78 (by decide) ?_
    refine wq_callV (d' := 1) (pc := 15) (as := [vI (-1000001)]) (rest := []) (lo' := [iR 80, iI ((-1000001))]) dM_week_15 mO_M_finding lV_M_79 sh_80 (by decide) cl_11 rfl rfl rfl rfl rfl rfl ?_
    refine sp_M_finding (k := 1) (by decide) (by decide) (by decide) hS ?_
    show Wq 2 0 0 mM_week 18 [iR 80, iI x1, none] [vI (-1000001)] (sI M 83 1 (wr (gI M 83 1 + 1))) _
    refine wq_ireturn (pc := 18) dM_week_18 trivial ?_
    exact H

set_option maxRecDepth 20000 in
theorem B_M_week_37 {x1 x2 : Int} {M : Mm} {Q : Mm → Option Mv → Prop} (H : Q M (some (vI x2))) : Wq 2 0 0 mM_week 37 [iR 80, iI x1, iI x2] [] M Q := by
  refine wq_iload_n (pc := 37) dM_week_37 rfl rfl ?_
  refine wq_ireturn (pc := 38) dM_week_38 trivial ?_
  exact H
set_option maxRecDepth 20000 in
theorem B_Y_turnWeek_0 {x1 : Int} {M : Mm} {Q : Mm → Option Mv → Prop} (H : Wq 1 0 0 mJ_bitCount 0 [iI x1] [] (sI M 2 3 x1) (fun M' v => Wq 3 0 0 mY_turnWeek 16 [iR 2, iI x1, iI (gI M 2 3)] (v.toList ++ [vI 1, vR 2]) M' Q)) : Wq 3 0 0 mY_turnWeek 0 [iR 2, iI x1, none] [] M Q := by
  refine wq_aload_n (pc := 0) dY_turnWeek_0 rfl rfl ?_
  refine wq_getI (pc := 1) (z := 3) dY_turnWeek_1 fO_Y_23 sh_2 rfl rfl ?_
  refine wq_istore_n (pc := 4) (lo' := [iR 2, iI x1, iI (gI M 2 3)]) dY_turnWeek_4 rfl rfl rfl ?_
  refine wq_aload_n (pc := 5) dY_turnWeek_5 rfl rfl ?_
  refine wq_iload_n (pc := 6) dY_turnWeek_6 rfl rfl ?_
  refine wq_putI (pc := 7) (z := 3) dY_turnWeek_7 fW_Y_23 sh_2 rfl rfl ?_
  refine wq_aload_n (pc := 10) dY_turnWeek_10 rfl rfl ?_
  refine wq_iconst (pc := 11) dY_turnWeek_11 rfl ?_
  refine wq_iload_n (pc := 12) dY_turnWeek_12 rfl rfl ?_
  refine wq_callS (d' := 1) (pc := 13) (as := [vI x1]) (rest := [vI 1, vR 2]) (lo' := [iI x1]) dY_turnWeek_13 mO_J_bitCount lS_Y_26 rfl rfl rfl rfl rfl rfl ?_
  exact H

set_option maxRecDepth 20000 in
theorem B_Y_turnWeek_16 {x1 x2 y0 y1 : Int} {M : Mm} {Q : Mm → Option Mv → Prop} (H : Wq 2 0 0 mY_countDry 0 [iR 2, iI 0, none] [] (sI M 2 4 (max y1 y0)) (fun M' v => Wq 3 0 0 mY_turnWeek 27 [iR 2, iI x1, iI x2] (v.toList ++ []) M' Q)) : Wq 3 0 0 mY_turnWeek 16 [iR 2, iI x1, iI x2] [vI y0, vI y1, vR 2] M Q := by
  refine wq_max (pc := 16) dY_turnWeek_16 xO_Y_45 rfl ?_
  refine wq_putI (pc := 19) (z := 4) dY_turnWeek_19 fW_Y_32 sh_2 rfl rfl ?_
  refine wq_aload_n (pc := 22) dY_turnWeek_22 rfl rfl ?_
  refine wq_iconst (pc := 23) dY_turnWeek_23 rfl ?_
  refine wq_callV (d' := 2) (pc := 24) (as := [vI 0]) (rest := []) (lo' := [iR 2, iI 0, none]) dY_turnWeek_24 mO_Y_countDry lV_Y_35 sh_2 (by decide) cl_1 rfl rfl rfl rfl rfl rfl ?_
  exact H

set_option maxRecDepth 20000 in
theorem B_Y_turnWeek_27 {x1 x2 : Int} {M : Mm} {Q : Mm → Option Mv → Prop} (H : Q M (some (vI x2))) : Wq 3 0 0 mY_turnWeek 27 [iR 2, iI x1, iI x2] [] M Q := by
  refine wq_iload_n (pc := 27) dY_turnWeek_27 rfl rfl ?_
  refine wq_ireturn (pc := 28) dY_turnWeek_28 trivial ?_
  exact H
set_option maxRecDepth 20000 in
theorem B_Y_countDry_0 {x1 : Int} {M : Mm} {Q : Mm → Option Mv → Prop} (H : Wq 2 0 0 mY_countDry 2 [iR 2, iI x1, iI x1] [] M Q) : Wq 2 0 0 mY_countDry 0 [iR 2, iI x1, none] [] M Q := by
  refine wq_iload_n (pc := 0) dY_countDry_0 rfl rfl ?_
  refine wq_istore_n (pc := 1) (lo' := [iR 2, iI x1, iI x1]) dY_countDry_1 rfl rfl rfl ?_
  exact H

set_option maxRecDepth 20000 in
theorem B_Y_countDry_2 {x1 x2 : Int} {M : Mm} {Q : Mm → Option Mv → Prop} (hS : RefOK M) (H : ((900 ≤ x2 → Q M none) ∧ (¬ 900 ≤ x2 → (((0 ≤ x2 ∧ x2 < 901) ∧ (-2147483648 ≤ Int.tmod x2 7 ∧ Int.tmod x2 7 < 2147483648) ∧ (0 ≤ gI M 2 3 ∧ gI M 2 3 < 2147483648 ∧ 0 ≤ Int.tmod x2 7 ∧ Int.tmod x2 7 < 32)) ∧ ((hb (gI M 2 3) (Int.tmod x2 7) = true → Wq 1 0 0 mY_isWet 0 [iR 2, iI x2] [] M (fun M' v => Wq 2 0 0 mY_countDry 41 [iR 2, iI x1, iI x2] (v.toList ++ [vI (gI M 4 x2), vI (wr (x2 + 1)), vR 4]) M' Q)) ∧ (¬ (hb (gI M 2 3) (Int.tmod x2 7) = true) → (((-2147483648 ≤ gI M 4 x2 ∧ gI M 4 x2 < 2147483648) ∧ (0 ≤ x2 + 1 ∧ x2 + 1 < 901) ∧ (-2147483648 ≤ x2 + 1 ∧ x2 + 1 < 2147483648)) ∧ Wq 2 0 0 mY_countDry 2 [iR 2, iI x1, iI (x2 + 1)] [] (sI M 4 (x2 + 1) (gI M 4 x2)) Q))))))) : Wq 2 0 0 mY_countDry 2 [iR 2, iI x1, iI x2] [] M Q := by
  refine wq_iload_n (pc := 2) dY_countDry_2 rfl rfl ?_
  refine wq_sipush (pc := 3) dY_countDry_3 rfl ?_
  refine wq_icmp_ge (pc := 6) (tgt := 57) dY_countDry_6 (by decide) (fun c1 => ?_) (fun c1 => ?_)
  · have H := H.1 c1
    refine wq_return (pc := 57) dY_countDry_57 trivial ?_
    exact H
  · have H := H.2 c1
    obtain ⟨⟨s2, s3, s4⟩, H⟩ := H
    refine wq_aload_n (pc := 9) dY_countDry_9 rfl rfl ?_
    refine wq_getR (pc := 10) (z := 1) (b := 4) dY_countDry_10 fO_Y_15 sh_2 rfl rfl (rf_2_1 hS) ?_
    refine wq_iload_n (pc := 13) dY_countDry_13 rfl rfl ?_
    refine wq_iconst (pc := 14) dY_countDry_14 rfl ?_
    refine wq_iadd (pc := 15) dY_countDry_15 ?_
    refine wq_aload_n (pc := 16) dY_countDry_16 rfl rfl ?_
    refine wq_getR (pc := 17) (z := 1) (b := 4) dY_countDry_17 fO_Y_15 sh_2 rfl rfl (rf_2_1 hS) ?_
    refine wq_iload_n (pc := 20) dY_countDry_20 rfl rfl ?_
    refine wq_iald (pc := 21) dY_countDry_21 sh_4 s2.1 s2.2 ?_
    refine wq_aload_n (pc := 22) dY_countDry_22 rfl rfl ?_
    refine wq_getI (pc := 23) (z := 3) dY_countDry_23 fO_Y_23 sh_2 rfl rfl ?_
    refine wq_iload_n (pc := 26) dY_countDry_26 rfl rfl ?_
    refine wq_bipush (pc := 27) dY_countDry_27 rfl ?_
    refine wq_irem (pc := 29) dY_countDry_29 (by decide) ?_
    refine wq_re (x := (wr (Int.tmod x2 7))) (y := (Int.tmod x2 7)) (Eq.trans (wr_eq (by omega) (by omega)) (by omega)) ?_
    refine wq_callS (d' := 1) (pc := 30) (as := [vI (gI M 2 3), vI (Int.tmod x2 7)]) (rest := [vI (gI M 4 x2), vI (wr (x2 + 1)), vR 4]) (lo' := [iI (gI M 2 3), iI (Int.tmod x2 7)]) dY_countDry_30 mO_D_holds lS_Y_61 rfl rfl rfl rfl rfl rfl ?_
    refine sp_D_holds s4 (fun c5 => ?_) (fun c5 => ?_)
    · have H := H.1 c5
      show Wq 2 0 0 mY_countDry 33 [iR 2, iI x1, iI x2] [vI 1, vI (gI M 4 x2), vI (wr (x2 + 1)), vR 4] M _
      refine wq_if_eq (pc := 33) (tgt := 48) dY_countDry_33 (by decide) (fun q => absurd q (by decide)) (fun _ => ?_)
      refine wq_aload_n (pc := 36) dY_countDry_36 rfl rfl ?_
      refine wq_iload_n (pc := 37) dY_countDry_37 rfl rfl ?_
      refine wq_callV (d' := 1) (pc := 38) (as := [vI x2]) (rest := [vI (gI M 4 x2), vI (wr (x2 + 1)), vR 4]) (lo' := [iR 2, iI x2]) dY_countDry_38 mO_Y_isWet lV_Y_51 sh_2 (by decide) cl_1 rfl rfl rfl rfl rfl rfl ?_
      exact H
    · have H := H.2 c5
      show Wq 2 0 0 mY_countDry 33 [iR 2, iI x1, iI x2] [vI 0, vI (gI M 4 x2), vI (wr (x2 + 1)), vR 4] M _
      obtain ⟨⟨s6, s7, s8⟩, H⟩ := H
      refine wq_if_eq (pc := 33) (tgt := 48) dY_countDry_33 (by decide) (fun _ => ?_) (fun q => absurd (by decide) q)
      refine wq_iconst (pc := 48) dY_countDry_48 rfl ?_
      refine wq_iadd (pc := 49) dY_countDry_49 ?_
      refine wq_re (x := (wr (gI M 4 x2 + 0))) (y := (gI M 4 x2)) (Eq.trans (wr_eq (by omega) (by omega)) (by omega)) ?_
      refine wq_re2 (x := (wr (x2 + 1))) (y := (x2 + 1)) (Eq.trans (wr_eq (by omega) (by omega)) (by omega)) ?_
      refine wq_iast (pc := 50) dY_countDry_50 sh_4 (by decide) s7.1 s7.2 ?_
      refine wq_iinc (pc := 51) (lo' := [iR 2, iI x1, iI (x2 + 1)]) dY_countDry_51 rfl rfl (by rw [show wr (x2 + 1) = x2 + 1 from (Eq.trans (wr_eq (by omega) (by omega)) (by omega))]; rfl) ?_
      refine wq_goto (pc := 54) (tgt := 2) dY_countDry_54 (by decide) ?_
      exact H

set_option maxRecDepth 20000 in
theorem B_Y_countDry_41 {x1 x2 y0 y1 y2 : Int} {M : Mm} {Q : Mm → Option Mv → Prop} (H : ((¬ y0 = 0 → (((-2147483648 ≤ y1 ∧ y1 < 2147483648) ∧ (0 ≤ y2 ∧ y2 < 901) ∧ (-2147483648 ≤ x2 + 1 ∧ x2 + 1 < 2147483648)) ∧ Wq 2 0 0 mY_countDry 2 [iR 2, iI x1, iI (x2 + 1)] [] (sI M 4 y2 y1) Q)) ∧ (y0 = 0 → (((-2147483648 ≤ y1 + 1 ∧ y1 + 1 < 2147483648) ∧ (0 ≤ y2 ∧ y2 < 901) ∧ (-2147483648 ≤ x2 + 1 ∧ x2 + 1 < 2147483648)) ∧ Wq 2 0 0 mY_countDry 2 [iR 2, iI x1, iI (x2 + 1)] [] (sI M 4 y2 (y1 + 1)) Q)))) : Wq 2 0 0 mY_countDry 41 [iR 2, iI x1, iI x2] [vI y0, vI y1, vI y2, vR 4] M Q := by
  refine wq_if_ne (pc := 41) (tgt := 48) dY_countDry_41 (by decide) (fun c1 => ?_) (fun c1 => ?_)
  · have H := H.1 c1
    obtain ⟨⟨s2, s3, s4⟩, H⟩ := H
    refine wq_iconst (pc := 48) dY_countDry_48 rfl ?_
    refine wq_iadd (pc := 49) dY_countDry_49 ?_
    refine wq_re (x := (wr (y1 + 0))) (y := y1) (Eq.trans (wr_eq (by omega) (by omega)) (by omega)) ?_
    refine wq_iast (pc := 50) dY_countDry_50 sh_4 (by decide) s3.1 s3.2 ?_
    refine wq_iinc (pc := 51) (lo' := [iR 2, iI x1, iI (x2 + 1)]) dY_countDry_51 rfl rfl (by rw [show wr (x2 + 1) = x2 + 1 from (Eq.trans (wr_eq (by omega) (by omega)) (by omega))]; rfl) ?_
    refine wq_goto (pc := 54) (tgt := 2) dY_countDry_54 (by decide) ?_
    exact H
  · have H := H.2 c1
    obtain ⟨⟨s5, s6, s7⟩, H⟩ := H
    refine wq_iconst (pc := 44) dY_countDry_44 rfl ?_
    refine wq_goto (pc := 45) (tgt := 49) dY_countDry_45 (by decide) ?_
    refine wq_iadd (pc := 49) dY_countDry_49 ?_
    refine wq_re (x := (wr (y1 + 1))) (y := (y1 + 1)) (Eq.trans (wr_eq (by omega) (by omega)) (by omega)) ?_
    refine wq_iast (pc := 50) dY_countDry_50 sh_4 (by decide) s6.1 s6.2 ?_
    refine wq_iinc (pc := 51) (lo' := [iR 2, iI x1, iI (x2 + 1)]) dY_countDry_51 rfl rfl (by rw [show wr (x2 + 1) = x2 + 1 from (Eq.trans (wr_eq (by omega) (by omega)) (by omega))]; rfl) ?_
    refine wq_goto (pc := 54) (tgt := 2) dY_countDry_54 (by decide) ?_
    exact H
set_option maxRecDepth 20000 in
theorem B_Y_isWet_0 {x1 : Int} {M : Mm} {Q : Mm → Option Mv → Prop} (hS : RefOK M) (H : ((0 ≤ bShr x1 6 ∧ bShr x1 6 < 15) ∧ ((lCmp (lAnd (lUshr (gL M 3 (bShr x1 6)) (bAnd x1 63)) 1) 0 = 0 → Q M (some (vI 0))) ∧ (¬ lCmp (lAnd (lUshr (gL M 3 (bShr x1 6)) (bAnd x1 63)) 1) 0 = 0 → Q M (some (vI 1)))))) : Wq 1 0 0 mY_isWet 0 [iR 2, iI x1] [] M Q := by
  obtain ⟨s1, H⟩ := H
  refine wq_aload_n (pc := 0) dY_isWet_0 rfl rfl ?_
  refine wq_getR (pc := 1) (z := 0) (b := 3) dY_isWet_1 fO_Y_9 sh_2 rfl rfl (rf_2_0 hS) ?_
  refine wq_iload_n (pc := 4) dY_isWet_4 rfl rfl ?_
  refine wq_bipush (pc := 5) dY_isWet_5 rfl ?_
  refine wq_ishr (pc := 7) dY_isWet_7 ?_
  refine wq_lald (pc := 8) dY_isWet_8 sh_3 s1.1 s1.2 ?_
  refine wq_iload_n (pc := 9) dY_isWet_9 rfl rfl ?_
  refine wq_bipush (pc := 10) dY_isWet_10 rfl ?_
  refine wq_iand (pc := 12) dY_isWet_12 ?_
  refine wq_lushr (pc := 13) dY_isWet_13 ?_
  refine wq_lconst (pc := 14) (x := 1) dY_isWet_14 rfl rfl ?_
  refine wq_land (pc := 15) dY_isWet_15 ?_
  refine wq_lconst (pc := 16) (x := 0) dY_isWet_16 rfl rfl ?_
  refine wq_lcmp (pc := 17) dY_isWet_17 ?_
  refine wq_if_eq (pc := 18) (tgt := 25) dY_isWet_18 (by decide) (fun c2 => ?_) (fun c2 => ?_)
  · have H := H.1 c2
    refine wq_iconst (pc := 25) dY_isWet_25 rfl ?_
    refine wq_ireturn (pc := 26) dY_isWet_26 (Or.inl rfl) ?_
    exact H
  · have H := H.2 c2
    refine wq_iconst (pc := 21) dY_isWet_21 rfl ?_
    refine wq_goto (pc := 22) (tgt := 26) dY_isWet_22 (by decide) ?_
    refine wq_ireturn (pc := 26) dY_isWet_26 (Or.inr rfl) ?_
    exact H
set_option maxRecDepth 20000 in
theorem B_D_rain_0 {x1 x2 x3 : Int} {M : Mm} {Q : Mm → Option Mv → Prop} (hS : RefOK M) (H : ((1 ≤ x2 ∧ x2 ≤ 60 → ((-2147483648 ≤ 900 - x2 ∧ 900 - x2 < 2147483648) ∧ ((0 ≤ x1 ∧ x1 ≤ 900 - x2 → Wq 3 0 0 mY_turnRain 0 [iR 2, iI x1, iI x2, iI x3, none, none] [] M (fun M' v => Wq 4 0 0 mD_rain 43 [iR 0, iI x1, iI x2, iI x3] (v.toList ++ []) M' Q)) ∧ (¬ (0 ≤ x1 ∧ x1 ≤ 900 - x2) → Q (sI M 69 1 (wr (gI M 69 1 + 1))) (some (vI (-1000001))))))) ∧ (¬ (1 ≤ x2 ∧ x2 ≤ 60) → Q (sI M 69 1 (wr (gI M 69 1 + 1))) (some (vI (-1000001)))))) : Wq 4 0 0 mD_rain 0 [iR 0, iI x1, iI x2, iI x3] [] M Q := by
  refine wq_iload_n (pc := 0) dD_rain_0 rfl rfl ?_
  refine wq_iconst (pc := 1) dD_rain_1 rfl ?_
  refine wq_bipush (pc := 2) dD_rain_2 rfl ?_
  refine wq_callS (d' := 1) (pc := 4) (as := [vI x2, vI 1, vI 60]) (rest := []) (lo' := [iI x2, iI 1, iI 60]) dD_rain_4 mO_D_within lS_D_65 rfl rfl rfl rfl rfl rfl ?_
  refine sp_D_within (fun c1 => ?_) (fun c1 => ?_)
  · have H := H.1 c1
    show Wq 4 0 0 mD_rain 7 [iR 0, iI x1, iI x2, iI x3] [vI 1] M _
    obtain ⟨s2, H⟩ := H
    refine wq_if_eq (pc := 7) (tgt := 23) dD_rain_7 (by decide) (fun q => absurd q (by decide)) (fun _ => ?_)
    refine wq_iload_n (pc := 10) dD_rain_10 rfl rfl ?_
    refine wq_iconst (pc := 11) dD_rain_11 rfl ?_
    refine wq_sipush (pc := 12) dD_rain_12 rfl ?_
    refine wq_iload_n (pc := 15) dD_rain_15 rfl rfl ?_
    refine wq_isub (pc := 16) dD_rain_16 ?_
    refine wq_re (x := (wr (900 - x2))) (y := (900 - x2)) (Eq.trans (wr_eq (by omega) (by omega)) (by omega)) ?_
    refine wq_callS (d' := 1) (pc := 17) (as := [vI x1, vI 0, vI (900 - x2)]) (rest := []) (lo' := [iI x1, iI 0, iI (900 - x2)]) dD_rain_17 mO_D_within lS_D_65 rfl rfl rfl rfl rfl rfl ?_
    refine sp_D_within (fun c3 => ?_) (fun c3 => ?_)
    · have H := H.1 c3
      show Wq 4 0 0 mD_rain 20 [iR 0, iI x1, iI x2, iI x3] [vI 1] M _
      refine wq_if_ne (pc := 20) (tgt := 30) dD_rain_20 (by decide) (fun _ => ?_) (fun q => absurd q (by decide))
      refine wq_aload_n (pc := 30) dD_rain_30 rfl rfl ?_
      refine wq_getR (pc := 31) (z := 0) (b := 1) dD_rain_31 fO_D_12 sh_0 rfl rfl (rf_0_0 hS) ?_
      refine wq_getR (pc := 34) (z := 0) (b := 2) dD_rain_34 fO_D_129 sh_1 rfl rfl (rf_1_0 hS) ?_
      refine wq_iload_n (pc := 37) dD_rain_37 rfl rfl ?_
      refine wq_iload_n (pc := 38) dD_rain_38 rfl rfl ?_
      refine wq_iload_n (pc := 39) dD_rain_39 rfl rfl ?_
      refine wq_callV (d' := 3) (pc := 40) (as := [vI x1, vI x2, vI x3]) (rest := []) (lo' := [iR 2, iI x1, iI x2, iI x3, none, none]) dD_rain_40 mO_Y_turnRain lV_D_138 sh_2 (by decide) cl_1 rfl rfl rfl rfl rfl rfl ?_
      exact H
    · have H := H.2 c3
      show Wq 4 0 0 mD_rain 20 [iR 0, iI x1, iI x2, iI x3] [vI 0] M _
      refine wq_if_ne (pc := 20) (tgt := 30) dD_rain_20 (by decide) (fun q => absurd q (by decide)) (fun _ => ?_)
      refine wq_aload_n (pc := 23) dD_rain_23 rfl rfl ?_
      refine wq_ldc (pc := 24) (z := (-1000001)) dD_rain_24 kO_D_69 (by decide) ?_
      refine wq_callV (d' := 2) (pc := 26) (as := [vI (-1000001)]) (rest := []) (lo' := [iR 0, iI ((-1000001)), none]) dD_rain_26 mO_D_finding lV_D_70 sh_0 (by decide) cl_10 rfl rfl rfl rfl rfl rfl ?_
      refine sp_D_finding (k := 1) (by decide) (by decide) (by decide) hS ?_
      show Wq 4 0 0 mD_rain 29 [iR 0, iI x1, iI x2, iI x3] [vI (-1000001)] (sI M 69 1 (wr (gI M 69 1 + 1))) _
      refine wq_ireturn (pc := 29) dD_rain_29 trivial ?_
      exact H
  · have H := H.2 c1
    show Wq 4 0 0 mD_rain 7 [iR 0, iI x1, iI x2, iI x3] [vI 0] M _
    refine wq_if_eq (pc := 7) (tgt := 23) dD_rain_7 (by decide) (fun _ => ?_) (fun q => absurd (by decide) q)
    refine wq_aload_n (pc := 23) dD_rain_23 rfl rfl ?_
    refine wq_ldc (pc := 24) (z := (-1000001)) dD_rain_24 kO_D_69 (by decide) ?_
    refine wq_callV (d' := 2) (pc := 26) (as := [vI (-1000001)]) (rest := []) (lo' := [iR 0, iI ((-1000001)), none]) dD_rain_26 mO_D_finding lV_D_70 sh_0 (by decide) cl_10 rfl rfl rfl rfl rfl rfl ?_
    refine sp_D_finding (k := 1) (by decide) (by decide) (by decide) hS ?_
    show Wq 4 0 0 mD_rain 29 [iR 0, iI x1, iI x2, iI x3] [vI (-1000001)] (sI M 69 1 (wr (gI M 69 1 + 1))) _
    refine wq_ireturn (pc := 29) dD_rain_29 trivial ?_
    exact H

set_option maxRecDepth 20000 in
theorem B_D_rain_43 {x1 x2 x3 y0 : Int} {M : Mm} {Q : Mm → Option Mv → Prop} (H : Q M (some (vI y0))) : Wq 4 0 0 mD_rain 43 [iR 0, iI x1, iI x2, iI x3] [vI y0] M Q := by
  refine wq_ireturn (pc := 43) dD_rain_43 trivial ?_
  exact H
set_option maxRecDepth 20000 in
theorem B_M_rain_0 {x1 x2 x3 : Int} {M : Mm} {Q : Mm → Option Mv → Prop} (hS : RefOK M) (H : ((1 ≤ x2 ∧ x2 ≤ 60 → ((0 ≤ x1 ∧ x1 ≤ wl (900 - x2) → Wq 2 0 0 mM_rain 40 [iR 80, iI x1, iI x2, iI x3, iI 0, iI x1] [] M Q) ∧ (¬ (0 ≤ x1 ∧ x1 ≤ wl (900 - x2)) → Q (sI M 83 1 (wr (gI M 83 1 + 1))) (some (vI (-1000001)))))) ∧ (¬ (1 ≤ x2 ∧ x2 ≤ 60) → Q (sI M 83 1 (wr (gI M 83 1 + 1))) (some (vI (-1000001)))))) : Wq 2 0 0 mM_rain 0 [iR 80, iI x1, iI x2, iI x3, none, none] [] M Q := by
  refine wq_iload_n (pc := 0) dM_rain_0 rfl rfl ?_
  refine wq_i2l (pc := 1) dM_rain_1 ?_
  refine wq_lconst (pc := 2) (x := 1) dM_rain_2 rfl rfl ?_
  refine wq_ldc2 (pc := 3) (z := 60) dM_rain_3 kO_M_117 (by decide) ?_
  refine wq_callS (d' := 1) (pc := 6) (as := [vL x2, vL 1, vL 60]) (rest := []) (lo' := [iL x2, none, iL 1, none, iL 60, none]) dM_rain_6 mO_M_within lS_M_68 rfl rfl rfl rfl rfl rfl ?_
  refine sp_M_within (fun c1 => ?_) (fun c1 => ?_)
  · have H := H.1 c1
    show Wq 2 0 0 mM_rain 9 [iR 80, iI x1, iI x2, iI x3, none, none] [vI 1] M _
    refine wq_if_eq (pc := 9) (tgt := 27) dM_rain_9 (by decide) (fun q => absurd q (by decide)) (fun _ => ?_)
    refine wq_iload_n (pc := 12) dM_rain_12 rfl rfl ?_
    refine wq_i2l (pc := 13) dM_rain_13 ?_
    refine wq_lconst (pc := 14) (x := 0) dM_rain_14 rfl rfl ?_
    refine wq_ldc2 (pc := 15) (z := 900) dM_rain_15 kO_M_119 (by decide) ?_
    refine wq_iload_n (pc := 18) dM_rain_18 rfl rfl ?_
    refine wq_i2l (pc := 19) dM_rain_19 ?_
    refine wq_lsub (pc := 20) dM_rain_20 ?_
    refine wq_callS (d' := 1) (pc := 21) (as := [vL x1, vL 0, vL (wl (900 - x2))]) (rest := []) (lo' := [iL x1, none, iL 0, none, iL (wl (900 - x2)), none]) dM_rain_21 mO_M_within lS_M_68 rfl rfl rfl rfl rfl rfl ?_
    refine sp_M_within (fun c2 => ?_) (fun c2 => ?_)
    · have H := H.1 c2
      show Wq 2 0 0 mM_rain 24 [iR 80, iI x1, iI x2, iI x3, none, none] [vI 1] M _
      refine wq_if_ne (pc := 24) (tgt := 34) dM_rain_24 (by decide) (fun _ => ?_) (fun q => absurd q (by decide))
      refine wq_iconst (pc := 34) dM_rain_34 rfl ?_
      refine wq_istore (pc := 35) (lo' := [iR 80, iI x1, iI x2, iI x3, iI 0, none]) dM_rain_35 rfl rfl ?_
      refine wq_iload_n (pc := 37) dM_rain_37 rfl rfl ?_
      refine wq_istore (pc := 38) (lo' := [iR 80, iI x1, iI x2, iI x3, iI 0, iI x1]) dM_rain_38 rfl rfl ?_
      exact H
    · have H := H.2 c2
      show Wq 2 0 0 mM_rain 24 [iR 80, iI x1, iI x2, iI x3, none, none] [vI 0] M _
      refine wq_if_ne (pc := 24) (tgt := 34) dM_rain_24 (by decide) (fun q => absurd q (by decide)) (fun _ => ?_)
      refine wq_aload_n (pc := 27) dM_rain_27 rfl rfl ?_
      refine wq_ldc (pc := 28) (z := (-1000001)) dM_rain_28 kO_M_78 (by decide) ?_
      refine wq_callV (d' := 1) (pc := 30) (as := [vI (-1000001)]) (rest := []) (lo' := [iR 80, iI ((-1000001))]) dM_rain_30 mO_M_finding lV_M_79 sh_80 (by decide) cl_11 rfl rfl rfl rfl rfl rfl ?_
      refine sp_M_finding (k := 1) (by decide) (by decide) (by decide) hS ?_
      show Wq 2 0 0 mM_rain 33 [iR 80, iI x1, iI x2, iI x3, none, none] [vI (-1000001)] (sI M 83 1 (wr (gI M 83 1 + 1))) _
      refine wq_ireturn (pc := 33) dM_rain_33 trivial ?_
      exact H
  · have H := H.2 c1
    show Wq 2 0 0 mM_rain 9 [iR 80, iI x1, iI x2, iI x3, none, none] [vI 0] M _
    refine wq_if_eq (pc := 9) (tgt := 27) dM_rain_9 (by decide) (fun _ => ?_) (fun q => absurd (by decide) q)
    refine wq_aload_n (pc := 27) dM_rain_27 rfl rfl ?_
    refine wq_ldc (pc := 28) (z := (-1000001)) dM_rain_28 kO_M_78 (by decide) ?_
    refine wq_callV (d' := 1) (pc := 30) (as := [vI (-1000001)]) (rest := []) (lo' := [iR 80, iI ((-1000001))]) dM_rain_30 mO_M_finding lV_M_79 sh_80 (by decide) cl_11 rfl rfl rfl rfl rfl rfl ?_
    refine sp_M_finding (k := 1) (by decide) (by decide) (by decide) hS ?_
    show Wq 2 0 0 mM_rain 33 [iR 80, iI x1, iI x2, iI x3, none, none] [vI (-1000001)] (sI M 83 1 (wr (gI M 83 1 + 1))) _
    refine wq_ireturn (pc := 33) dM_rain_33 trivial ?_
    exact H

set_option maxRecDepth 20000 in
theorem B_M_rain_40 {x1 x2 x3 x4 x5 : Int} {M : Mm} {Q : Mm → Option Mv → Prop} (hS : RefOK M) (H : ((-2147483648 ≤ x1 + x2 ∧ x1 + x2 < 2147483648) ∧ ((x1 + x2 ≤ x5 → Wq 1 0 0 mM_changed 0 [iR 80, none] [] M (fun M' v => Wq 2 0 0 mM_rain 111 [iR 80, iI x1, iI x2, iI x3, iI x4, iI x5] (v.toList ++ []) M' Q)) ∧ (¬ x1 + x2 ≤ x5 → ((0 ≤ 1033 + x5 ∧ 1033 + x5 < 1993) ∧ ((x3 = 0 → ((¬ gI M 81 (1033 + x5) = 1 → ((-2147483648 ≤ x4 ∧ x4 < 2147483648) ∧ ((x3 = 0 → ((-2147483648 ≤ x5 + 1 ∧ x5 + 1 < 2147483648) ∧ Wq 2 0 0 mM_rain 40 [iR 80, iI x1, iI x2, iI x3, iI x4, iI (x5 + 1)] [] (sI M 81 (1033 + x5) 0) Q)) ∧ (¬ x3 = 0 → ((-2147483648 ≤ x5 + 1 ∧ x5 + 1 < 2147483648) ∧ Wq 2 0 0 mM_rain 40 [iR 80, iI x1, iI x2, iI x3, iI x4, iI (x5 + 1)] [] (sI M 81 (1033 + x5) 1) Q))))) ∧ (gI M 81 (1033 + x5) = 1 → ((-2147483648 ≤ x4 + 1 ∧ x4 + 1 < 2147483648) ∧ ((x3 = 0 → ((-2147483648 ≤ x5 + 1 ∧ x5 + 1 < 2147483648) ∧ Wq 2 0 0 mM_rain 40 [iR 80, iI x1, iI x2, iI x3, iI (x4 + 1), iI (x5 + 1)] [] (sI M 81 (1033 + x5) 0) Q)) ∧ (¬ x3 = 0 → ((-2147483648 ≤ x5 + 1 ∧ x5 + 1 < 2147483648) ∧ Wq 2 0 0 mM_rain 40 [iR 80, iI x1, iI x2, iI x3, iI (x4 + 1), iI (x5 + 1)] [] (sI M 81 (1033 + x5) 1) Q))))))) ∧ (¬ x3 = 0 → ((¬ gI M 81 (1033 + x5) = 0 → ((-2147483648 ≤ x4 ∧ x4 < 2147483648) ∧ ((x3 = 0 → ((-2147483648 ≤ x5 + 1 ∧ x5 + 1 < 2147483648) ∧ Wq 2 0 0 mM_rain 40 [iR 80, iI x1, iI x2, iI x3, iI x4, iI (x5 + 1)] [] (sI M 81 (1033 + x5) 0) Q)) ∧ (¬ x3 = 0 → ((-2147483648 ≤ x5 + 1 ∧ x5 + 1 < 2147483648) ∧ Wq 2 0 0 mM_rain 40 [iR 80, iI x1, iI x2, iI x3, iI x4, iI (x5 + 1)] [] (sI M 81 (1033 + x5) 1) Q))))) ∧ (gI M 81 (1033 + x5) = 0 → ((-2147483648 ≤ x4 + 1 ∧ x4 + 1 < 2147483648) ∧ ((x3 = 0 → ((-2147483648 ≤ x5 + 1 ∧ x5 + 1 < 2147483648) ∧ Wq 2 0 0 mM_rain 40 [iR 80, iI x1, iI x2, iI x3, iI (x4 + 1), iI (x5 + 1)] [] (sI M 81 (1033 + x5) 0) Q)) ∧ (¬ x3 = 0 → ((-2147483648 ≤ x5 + 1 ∧ x5 + 1 < 2147483648) ∧ Wq 2 0 0 mM_rain 40 [iR 80, iI x1, iI x2, iI x3, iI (x4 + 1), iI (x5 + 1)] [] (sI M 81 (1033 + x5) 1) Q))))))))))))) : Wq 2 0 0 mM_rain 40 [iR 80, iI x1, iI x2, iI x3, iI x4, iI x5] [] M Q := by
  obtain ⟨s1, H⟩ := H
  refine wq_iload (pc := 40) dM_rain_40 rfl ?_
  refine wq_iload_n (pc := 42) dM_rain_42 rfl rfl ?_
  refine wq_iload_n (pc := 43) dM_rain_43 rfl rfl ?_
  refine wq_iadd (pc := 44) dM_rain_44 ?_
  refine wq_re (x := (wr (x1 + x2))) (y := (x1 + x2)) (Eq.trans (wr_eq (by omega) (by omega)) (by omega)) ?_
  refine wq_icmp_ge (pc := 45) (tgt := 107) dM_rain_45 (by decide) (fun c2 => ?_) (fun c2 => ?_)
  · have H := H.1 c2
    refine wq_aload_n (pc := 107) dM_rain_107 rfl rfl ?_
    refine wq_callV (d' := 1) (pc := 108) (as := []) (rest := []) (lo' := [iR 80, none]) dM_rain_108 mO_M_changed lV_M_64 sh_80 (by decide) cl_11 rfl rfl rfl rfl rfl rfl ?_
    exact H
  · have H := H.2 c2
    obtain ⟨s3, H⟩ := H
    refine wq_iload (pc := 48) dM_rain_48 rfl ?_
    refine wq_aload_n (pc := 50) dM_rain_50 rfl rfl ?_
    refine wq_getR (pc := 51) (z := 0) (b := 81) dM_rain_51 fO_M_9 sh_80 rfl rfl (rf_80_0 hS) ?_
    refine wq_sipush (pc := 54) dM_rain_54 rfl ?_
    refine wq_iload (pc := 57) dM_rain_57 rfl ?_
    refine wq_iadd (pc := 59) dM_rain_59 ?_
    refine wq_re (x := (wr (1033 + x5))) (y := (1033 + x5)) (Eq.trans (wr_eq (by omega) (by omega)) (by omega)) ?_
    refine wq_iald (pc := 60) dM_rain_60 sh_81 s3.1 s3.2 ?_
    refine wq_iload_n (pc := 61) dM_rain_61 rfl rfl ?_
    refine wq_if_eq (pc := 62) (tgt := 69) dM_rain_62 (by decide) (fun c4 => ?_) (fun c4 => ?_)
    · have H := H.1 c4
      refine wq_iconst (pc := 69) dM_rain_69 rfl ?_
      refine wq_icmp_ne (pc := 70) (tgt := 77) dM_rain_70 (by decide) (fun c5 => ?_) (fun c5 => ?_)
      · have H := H.1 c5
        obtain ⟨s6, H⟩ := H
        refine wq_iconst (pc := 77) dM_rain_77 rfl ?_
        refine wq_iadd (pc := 78) dM_rain_78 ?_
        refine wq_re (x := (wr (x4 + 0))) (y := x4) (Eq.trans (wr_eq (by omega) (by omega)) (by omega)) ?_
        refine wq_istore (pc := 79) (lo' := [iR 80, iI x1, iI x2, iI x3, iI x4, iI x5]) dM_rain_79 rfl rfl ?_
        refine wq_aload_n (pc := 81) dM_rain_81 rfl rfl ?_
        refine wq_getR (pc := 82) (z := 0) (b := 81) dM_rain_82 fO_M_9 sh_80 rfl rfl (rf_80_0 hS) ?_
        refine wq_sipush (pc := 85) dM_rain_85 rfl ?_
        refine wq_iload (pc := 88) dM_rain_88 rfl ?_
        refine wq_iadd (pc := 90) dM_rain_90 ?_
        refine wq_iload_n (pc := 91) dM_rain_91 rfl rfl ?_
        refine wq_if_eq (pc := 92) (tgt := 99) dM_rain_92 (by decide) (fun c7 => ?_) (fun c7 => ?_)
        · have H := H.1 c7
          obtain ⟨s8, H⟩ := H
          refine wq_iconst (pc := 99) dM_rain_99 rfl ?_
          refine wq_re2 (x := (wr (1033 + x5))) (y := (1033 + x5)) (Eq.trans (wr_eq (by omega) (by omega)) (by omega)) ?_
          refine wq_iast (pc := 100) dM_rain_100 sh_81 (by decide) s3.1 s3.2 ?_
          refine wq_iinc (pc := 101) (lo' := [iR 80, iI x1, iI x2, iI x3, iI x4, iI (x5 + 1)]) dM_rain_101 rfl rfl (by rw [show wr (x5 + 1) = x5 + 1 from (Eq.trans (wr_eq (by omega) (by omega)) (by omega))]; rfl) ?_
          refine wq_goto (pc := 104) (tgt := 40) dM_rain_104 (by decide) ?_
          exact H
        · have H := H.2 c7
          obtain ⟨s9, H⟩ := H
          refine wq_iconst (pc := 95) dM_rain_95 rfl ?_
          refine wq_goto (pc := 96) (tgt := 100) dM_rain_96 (by decide) ?_
          refine wq_re2 (x := (wr (1033 + x5))) (y := (1033 + x5)) (Eq.trans (wr_eq (by omega) (by omega)) (by omega)) ?_
          refine wq_iast (pc := 100) dM_rain_100 sh_81 (by decide) s3.1 s3.2 ?_
          refine wq_iinc (pc := 101) (lo' := [iR 80, iI x1, iI x2, iI x3, iI x4, iI (x5 + 1)]) dM_rain_101 rfl rfl (by rw [show wr (x5 + 1) = x5 + 1 from (Eq.trans (wr_eq (by omega) (by omega)) (by omega))]; rfl) ?_
          refine wq_goto (pc := 104) (tgt := 40) dM_rain_104 (by decide) ?_
          exact H
      · have H := H.2 c5
        obtain ⟨s10, H⟩ := H
        refine wq_iconst (pc := 73) dM_rain_73 rfl ?_
        refine wq_goto (pc := 74) (tgt := 78) dM_rain_74 (by decide) ?_
        refine wq_iadd (pc := 78) dM_rain_78 ?_
        refine wq_re (x := (wr (x4 + 1))) (y := (x4 + 1)) (Eq.trans (wr_eq (by omega) (by omega)) (by omega)) ?_
        refine wq_istore (pc := 79) (lo' := [iR 80, iI x1, iI x2, iI x3, iI (x4 + 1), iI x5]) dM_rain_79 rfl rfl ?_
        refine wq_aload_n (pc := 81) dM_rain_81 rfl rfl ?_
        refine wq_getR (pc := 82) (z := 0) (b := 81) dM_rain_82 fO_M_9 sh_80 rfl rfl (rf_80_0 hS) ?_
        refine wq_sipush (pc := 85) dM_rain_85 rfl ?_
        refine wq_iload (pc := 88) dM_rain_88 rfl ?_
        refine wq_iadd (pc := 90) dM_rain_90 ?_
        refine wq_iload_n (pc := 91) dM_rain_91 rfl rfl ?_
        refine wq_if_eq (pc := 92) (tgt := 99) dM_rain_92 (by decide) (fun c11 => ?_) (fun c11 => ?_)
        · have H := H.1 c11
          obtain ⟨s12, H⟩ := H
          refine wq_iconst (pc := 99) dM_rain_99 rfl ?_
          refine wq_re2 (x := (wr (1033 + x5))) (y := (1033 + x5)) (Eq.trans (wr_eq (by omega) (by omega)) (by omega)) ?_
          refine wq_iast (pc := 100) dM_rain_100 sh_81 (by decide) s3.1 s3.2 ?_
          refine wq_iinc (pc := 101) (lo' := [iR 80, iI x1, iI x2, iI x3, iI (x4 + 1), iI (x5 + 1)]) dM_rain_101 rfl rfl (by rw [show wr (x5 + 1) = x5 + 1 from (Eq.trans (wr_eq (by omega) (by omega)) (by omega))]; rfl) ?_
          refine wq_goto (pc := 104) (tgt := 40) dM_rain_104 (by decide) ?_
          exact H
        · have H := H.2 c11
          obtain ⟨s13, H⟩ := H
          refine wq_iconst (pc := 95) dM_rain_95 rfl ?_
          refine wq_goto (pc := 96) (tgt := 100) dM_rain_96 (by decide) ?_
          refine wq_re2 (x := (wr (1033 + x5))) (y := (1033 + x5)) (Eq.trans (wr_eq (by omega) (by omega)) (by omega)) ?_
          refine wq_iast (pc := 100) dM_rain_100 sh_81 (by decide) s3.1 s3.2 ?_
          refine wq_iinc (pc := 101) (lo' := [iR 80, iI x1, iI x2, iI x3, iI (x4 + 1), iI (x5 + 1)]) dM_rain_101 rfl rfl (by rw [show wr (x5 + 1) = x5 + 1 from (Eq.trans (wr_eq (by omega) (by omega)) (by omega))]; rfl) ?_
          refine wq_goto (pc := 104) (tgt := 40) dM_rain_104 (by decide) ?_
          exact H
    · have H := H.2 c4
      refine wq_iconst (pc := 65) dM_rain_65 rfl ?_
      refine wq_goto (pc := 66) (tgt := 70) dM_rain_66 (by decide) ?_
      refine wq_icmp_ne (pc := 70) (tgt := 77) dM_rain_70 (by decide) (fun c14 => ?_) (fun c14 => ?_)
      · have H := H.1 c14
        obtain ⟨s15, H⟩ := H
        refine wq_iconst (pc := 77) dM_rain_77 rfl ?_
        refine wq_iadd (pc := 78) dM_rain_78 ?_
        refine wq_re (x := (wr (x4 + 0))) (y := x4) (Eq.trans (wr_eq (by omega) (by omega)) (by omega)) ?_
        refine wq_istore (pc := 79) (lo' := [iR 80, iI x1, iI x2, iI x3, iI x4, iI x5]) dM_rain_79 rfl rfl ?_
        refine wq_aload_n (pc := 81) dM_rain_81 rfl rfl ?_
        refine wq_getR (pc := 82) (z := 0) (b := 81) dM_rain_82 fO_M_9 sh_80 rfl rfl (rf_80_0 hS) ?_
        refine wq_sipush (pc := 85) dM_rain_85 rfl ?_
        refine wq_iload (pc := 88) dM_rain_88 rfl ?_
        refine wq_iadd (pc := 90) dM_rain_90 ?_
        refine wq_iload_n (pc := 91) dM_rain_91 rfl rfl ?_
        refine wq_if_eq (pc := 92) (tgt := 99) dM_rain_92 (by decide) (fun c16 => ?_) (fun c16 => ?_)
        · have H := H.1 c16
          obtain ⟨s17, H⟩ := H
          refine wq_iconst (pc := 99) dM_rain_99 rfl ?_
          refine wq_re2 (x := (wr (1033 + x5))) (y := (1033 + x5)) (Eq.trans (wr_eq (by omega) (by omega)) (by omega)) ?_
          refine wq_iast (pc := 100) dM_rain_100 sh_81 (by decide) s3.1 s3.2 ?_
          refine wq_iinc (pc := 101) (lo' := [iR 80, iI x1, iI x2, iI x3, iI x4, iI (x5 + 1)]) dM_rain_101 rfl rfl (by rw [show wr (x5 + 1) = x5 + 1 from (Eq.trans (wr_eq (by omega) (by omega)) (by omega))]; rfl) ?_
          refine wq_goto (pc := 104) (tgt := 40) dM_rain_104 (by decide) ?_
          exact H
        · have H := H.2 c16
          obtain ⟨s18, H⟩ := H
          refine wq_iconst (pc := 95) dM_rain_95 rfl ?_
          refine wq_goto (pc := 96) (tgt := 100) dM_rain_96 (by decide) ?_
          refine wq_re2 (x := (wr (1033 + x5))) (y := (1033 + x5)) (Eq.trans (wr_eq (by omega) (by omega)) (by omega)) ?_
          refine wq_iast (pc := 100) dM_rain_100 sh_81 (by decide) s3.1 s3.2 ?_
          refine wq_iinc (pc := 101) (lo' := [iR 80, iI x1, iI x2, iI x3, iI x4, iI (x5 + 1)]) dM_rain_101 rfl rfl (by rw [show wr (x5 + 1) = x5 + 1 from (Eq.trans (wr_eq (by omega) (by omega)) (by omega))]; rfl) ?_
          refine wq_goto (pc := 104) (tgt := 40) dM_rain_104 (by decide) ?_
          exact H
      · have H := H.2 c14
        obtain ⟨s19, H⟩ := H
        refine wq_iconst (pc := 73) dM_rain_73 rfl ?_
        refine wq_goto (pc := 74) (tgt := 78) dM_rain_74 (by decide) ?_
        refine wq_iadd (pc := 78) dM_rain_78 ?_
        refine wq_re (x := (wr (x4 + 1))) (y := (x4 + 1)) (Eq.trans (wr_eq (by omega) (by omega)) (by omega)) ?_
        refine wq_istore (pc := 79) (lo' := [iR 80, iI x1, iI x2, iI x3, iI (x4 + 1), iI x5]) dM_rain_79 rfl rfl ?_
        refine wq_aload_n (pc := 81) dM_rain_81 rfl rfl ?_
        refine wq_getR (pc := 82) (z := 0) (b := 81) dM_rain_82 fO_M_9 sh_80 rfl rfl (rf_80_0 hS) ?_
        refine wq_sipush (pc := 85) dM_rain_85 rfl ?_
        refine wq_iload (pc := 88) dM_rain_88 rfl ?_
        refine wq_iadd (pc := 90) dM_rain_90 ?_
        refine wq_iload_n (pc := 91) dM_rain_91 rfl rfl ?_
        refine wq_if_eq (pc := 92) (tgt := 99) dM_rain_92 (by decide) (fun c20 => ?_) (fun c20 => ?_)
        · have H := H.1 c20
          obtain ⟨s21, H⟩ := H
          refine wq_iconst (pc := 99) dM_rain_99 rfl ?_
          refine wq_re2 (x := (wr (1033 + x5))) (y := (1033 + x5)) (Eq.trans (wr_eq (by omega) (by omega)) (by omega)) ?_
          refine wq_iast (pc := 100) dM_rain_100 sh_81 (by decide) s3.1 s3.2 ?_
          refine wq_iinc (pc := 101) (lo' := [iR 80, iI x1, iI x2, iI x3, iI (x4 + 1), iI (x5 + 1)]) dM_rain_101 rfl rfl (by rw [show wr (x5 + 1) = x5 + 1 from (Eq.trans (wr_eq (by omega) (by omega)) (by omega))]; rfl) ?_
          refine wq_goto (pc := 104) (tgt := 40) dM_rain_104 (by decide) ?_
          exact H
        · have H := H.2 c20
          obtain ⟨s22, H⟩ := H
          refine wq_iconst (pc := 95) dM_rain_95 rfl ?_
          refine wq_goto (pc := 96) (tgt := 100) dM_rain_96 (by decide) ?_
          refine wq_re2 (x := (wr (1033 + x5))) (y := (1033 + x5)) (Eq.trans (wr_eq (by omega) (by omega)) (by omega)) ?_
          refine wq_iast (pc := 100) dM_rain_100 sh_81 (by decide) s3.1 s3.2 ?_
          refine wq_iinc (pc := 101) (lo' := [iR 80, iI x1, iI x2, iI x3, iI (x4 + 1), iI (x5 + 1)]) dM_rain_101 rfl rfl (by rw [show wr (x5 + 1) = x5 + 1 from (Eq.trans (wr_eq (by omega) (by omega)) (by omega))]; rfl) ?_
          refine wq_goto (pc := 104) (tgt := 40) dM_rain_104 (by decide) ?_
          exact H

set_option maxRecDepth 20000 in
theorem B_M_rain_111 {x1 x2 x3 x4 x5 : Int} {M : Mm} {Q : Mm → Option Mv → Prop} (H : Q M (some (vI x4))) : Wq 2 0 0 mM_rain 111 [iR 80, iI x1, iI x2, iI x3, iI x4, iI x5] [] M Q := by
  refine wq_iload (pc := 111) dM_rain_111 rfl ?_
  refine wq_ireturn (pc := 113) dM_rain_113 trivial ?_
  exact H
set_option maxRecDepth 20000 in
theorem B_Y_turnRain_0 {x1 x2 x3 : Int} {M : Mm} {Q : Mm → Option Mv → Prop} (H : Wq 3 0 0 mY_turnRain 6 [iR 2, iI x1, iI x2, iI x3, iI 0, iI x1] [] M Q) : Wq 3 0 0 mY_turnRain 0 [iR 2, iI x1, iI x2, iI x3, none, none] [] M Q := by
  refine wq_iconst (pc := 0) dY_turnRain_0 rfl ?_
  refine wq_istore (pc := 1) (lo' := [iR 2, iI x1, iI x2, iI x3, iI 0, none]) dY_turnRain_1 rfl rfl ?_
  refine wq_iload_n (pc := 3) dY_turnRain_3 rfl rfl ?_
  refine wq_istore (pc := 4) (lo' := [iR 2, iI x1, iI x2, iI x3, iI 0, iI x1]) dY_turnRain_4 rfl rfl ?_
  exact H

set_option maxRecDepth 20000 in
theorem B_Y_turnRain_6 {x1 x2 x3 x4 x5 : Int} {M : Mm} {Q : Mm → Option Mv → Prop} (H : ((-2147483648 ≤ x1 + x2 ∧ x1 + x2 < 2147483648) ∧ ((x1 + x2 ≤ x5 → ((x3 = 0 → ((-2147483648 ≤ gI M 2 2 + (0 - x4) ∧ gI M 2 2 + (0 - x4) < 2147483648) ∧ Wq 2 0 0 mY_countDry 0 [iR 2, iI x1, none] [] (sI M 2 2 (gI M 2 2 + (0 - x4))) (fun M' v => Wq 3 0 0 mY_turnRain 79 [iR 2, iI x1, iI x2, iI x3, iI x4, iI x5] (v.toList ++ []) M' Q))) ∧ (¬ x3 = 0 → ((-2147483648 ≤ gI M 2 2 + x4 ∧ gI M 2 2 + x4 < 2147483648) ∧ Wq 2 0 0 mY_countDry 0 [iR 2, iI x1, none] [] (sI M 2 2 (gI M 2 2 + x4)) (fun M' v => Wq 3 0 0 mY_turnRain 79 [iR 2, iI x1, iI x2, iI x3, iI x4, iI x5] (v.toList ++ []) M' Q))))) ∧ (¬ x1 + x2 ≤ x5 → Wq 1 0 0 mY_isWet 0 [iR 2, iI x5] [] M (fun M' v => Wq 3 0 0 mY_turnRain 20 [iR 2, iI x1, iI x2, iI x3, iI x4, iI x5] (v.toList ++ []) M' Q))))) : Wq 3 0 0 mY_turnRain 6 [iR 2, iI x1, iI x2, iI x3, iI x4, iI x5] [] M Q := by
  obtain ⟨s1, H⟩ := H
  refine wq_iload (pc := 6) dY_turnRain_6 rfl ?_
  refine wq_iload_n (pc := 8) dY_turnRain_8 rfl rfl ?_
  refine wq_iload_n (pc := 9) dY_turnRain_9 rfl rfl ?_
  refine wq_iadd (pc := 10) dY_turnRain_10 ?_
  refine wq_re (x := (wr (x1 + x2))) (y := (x1 + x2)) (Eq.trans (wr_eq (by omega) (by omega)) (by omega)) ?_
  refine wq_icmp_ge (pc := 11) (tgt := 53) dY_turnRain_11 (by decide) (fun c2 => ?_) (fun c2 => ?_)
  · have H := H.1 c2
    refine wq_aload_n (pc := 53) dY_turnRain_53 rfl rfl ?_
    refine wq_dup (pc := 54) dY_turnRain_54 rfl ?_
    refine wq_getI (pc := 55) (z := 2) dY_turnRain_55 fO_Y_19 sh_2 rfl rfl ?_
    refine wq_iload_n (pc := 58) dY_turnRain_58 rfl rfl ?_
    refine wq_if_eq (pc := 59) (tgt := 67) dY_turnRain_59 (by decide) (fun c3 => ?_) (fun c3 => ?_)
    · have H := H.1 c3
      obtain ⟨s4, H⟩ := H
      refine wq_iload (pc := 67) dY_turnRain_67 rfl ?_
      refine wq_ineg (pc := 69) dY_turnRain_69 ?_
      refine wq_iadd (pc := 70) dY_turnRain_70 ?_
      refine wq_re (x := (wr (gI M 2 2 + wr (- x4)))) (y := (gI M 2 2 + (0 - x4))) (by (try simp only [wr_al, wr_ar, wr_sl, wr_sr, wr_ml, wr_mr, wr_nn, wr_ww]); exact Eq.trans (wr_eq (by omega) (by omega)) (by omega)) ?_
      refine wq_putI (pc := 71) (z := 2) dY_turnRain_71 fW_Y_19 sh_2 rfl rfl ?_
      refine wq_aload_n (pc := 74) dY_turnRain_74 rfl rfl ?_
      refine wq_iload_n (pc := 75) dY_turnRain_75 rfl rfl ?_
      refine wq_callV (d' := 2) (pc := 76) (as := [vI x1]) (rest := []) (lo' := [iR 2, iI x1, none]) dY_turnRain_76 mO_Y_countDry lV_Y_35 sh_2 (by decide) cl_1 rfl rfl rfl rfl rfl rfl ?_
      exact H
    · have H := H.2 c3
      obtain ⟨s5, H⟩ := H
      refine wq_iload (pc := 62) dY_turnRain_62 rfl ?_
      refine wq_goto (pc := 64) (tgt := 70) dY_turnRain_64 (by decide) ?_
      refine wq_iadd (pc := 70) dY_turnRain_70 ?_
      refine wq_re (x := (wr (gI M 2 2 + x4))) (y := (gI M 2 2 + x4)) (Eq.trans (wr_eq (by omega) (by omega)) (by omega)) ?_
      refine wq_putI (pc := 71) (z := 2) dY_turnRain_71 fW_Y_19 sh_2 rfl rfl ?_
      refine wq_aload_n (pc := 74) dY_turnRain_74 rfl rfl ?_
      refine wq_iload_n (pc := 75) dY_turnRain_75 rfl rfl ?_
      refine wq_callV (d' := 2) (pc := 76) (as := [vI x1]) (rest := []) (lo' := [iR 2, iI x1, none]) dY_turnRain_76 mO_Y_countDry lV_Y_35 sh_2 (by decide) cl_1 rfl rfl rfl rfl rfl rfl ?_
      exact H
  · have H := H.2 c2
    refine wq_aload_n (pc := 14) dY_turnRain_14 rfl rfl ?_
    refine wq_iload (pc := 15) dY_turnRain_15 rfl ?_
    refine wq_callV (d' := 1) (pc := 17) (as := [vI x5]) (rest := []) (lo' := [iR 2, iI x5]) dY_turnRain_17 mO_Y_isWet lV_Y_51 sh_2 (by decide) cl_1 rfl rfl rfl rfl rfl rfl ?_
    exact H

set_option maxRecDepth 20000 in
theorem B_Y_turnRain_20 {x1 x2 x3 x4 x5 y0 : Int} {M : Mm} {Q : Mm → Option Mv → Prop} (hS : RefOK M) (H : ((y0 = x3 → ((-2147483648 ≤ x5 + 1 ∧ x5 + 1 < 2147483648) ∧ Wq 3 0 0 mY_turnRain 6 [iR 2, iI x1, iI x2, iI x3, iI x4, iI (x5 + 1)] [] M Q)) ∧ (¬ y0 = x3 → (((0 ≤ bShr x5 6 ∧ bShr x5 6 < 15) ∧ (-2147483648 ≤ x4 + 1 ∧ x4 + 1 < 2147483648) ∧ (-2147483648 ≤ x5 + 1 ∧ x5 + 1 < 2147483648)) ∧ Wq 3 0 0 mY_turnRain 6 [iR 2, iI x1, iI x2, iI x3, iI (x4 + 1), iI (x5 + 1)] [] (sL M 3 (bShr x5 6) (lXor (gL M 3 (bShr x5 6)) (lShl 1 (bAnd x5 63)))) Q)))) : Wq 3 0 0 mY_turnRain 20 [iR 2, iI x1, iI x2, iI x3, iI x4, iI x5] [vI y0] M Q := by
  refine wq_iload_n (pc := 20) dY_turnRain_20 rfl rfl ?_
  refine wq_icmp_eq (pc := 21) (tgt := 47) dY_turnRain_21 (by decide) (fun c1 => ?_) (fun c1 => ?_)
  · have H := H.1 c1
    obtain ⟨s2, H⟩ := H
    refine wq_iinc (pc := 47) (lo' := [iR 2, iI x1, iI x2, iI x3, iI x4, iI (x5 + 1)]) dY_turnRain_47 rfl rfl (by rw [show wr (x5 + 1) = x5 + 1 from (Eq.trans (wr_eq (by omega) (by omega)) (by omega))]; rfl) ?_
    refine wq_goto (pc := 50) (tgt := 6) dY_turnRain_50 (by decide) ?_
    exact H
  · have H := H.2 c1
    obtain ⟨⟨s3, s4, s5⟩, H⟩ := H
    refine wq_aload_n (pc := 24) dY_turnRain_24 rfl rfl ?_
    refine wq_getR (pc := 25) (z := 0) (b := 3) dY_turnRain_25 fO_Y_9 sh_2 rfl rfl (rf_2_0 hS) ?_
    refine wq_iload (pc := 28) dY_turnRain_28 rfl ?_
    refine wq_bipush (pc := 30) dY_turnRain_30 rfl ?_
    refine wq_ishr (pc := 32) dY_turnRain_32 ?_
    refine wq_dup2 (pc := 33) dY_turnRain_33 rfl rfl ?_
    refine wq_lald (pc := 34) dY_turnRain_34 sh_3 s3.1 s3.2 ?_
    refine wq_lconst (pc := 35) (x := 1) dY_turnRain_35 rfl rfl ?_
    refine wq_iload (pc := 36) dY_turnRain_36 rfl ?_
    refine wq_bipush (pc := 38) dY_turnRain_38 rfl ?_
    refine wq_iand (pc := 40) dY_turnRain_40 ?_
    refine wq_lshl (pc := 41) dY_turnRain_41 ?_
    refine wq_lxor (pc := 42) dY_turnRain_42 ?_
    refine wq_last (pc := 43) dY_turnRain_43 sh_3 s3.1 s3.2 ?_
    refine wq_iinc (pc := 44) (lo' := [iR 2, iI x1, iI x2, iI x3, iI (x4 + 1), iI x5]) dY_turnRain_44 rfl rfl (by rw [show wr (x4 + 1) = x4 + 1 from (Eq.trans (wr_eq (by omega) (by omega)) (by omega))]; rfl) ?_
    refine wq_iinc (pc := 47) (lo' := [iR 2, iI x1, iI x2, iI x3, iI (x4 + 1), iI (x5 + 1)]) dY_turnRain_47 rfl rfl (by rw [show wr (x5 + 1) = x5 + 1 from (Eq.trans (wr_eq (by omega) (by omega)) (by omega))]; rfl) ?_
    refine wq_goto (pc := 50) (tgt := 6) dY_turnRain_50 (by decide) ?_
    exact H

set_option maxRecDepth 20000 in
theorem B_Y_turnRain_79 {x1 x2 x3 x4 x5 : Int} {M : Mm} {Q : Mm → Option Mv → Prop} (H : Q M (some (vI x4))) : Wq 3 0 0 mY_turnRain 79 [iR 2, iI x1, iI x2, iI x3, iI x4, iI x5] [] M Q := by
  refine wq_iload (pc := 79) dY_turnRain_79 rfl ?_
  refine wq_ireturn (pc := 81) dY_turnRain_81 trivial ?_
  exact H
set_option maxRecDepth 20000 in
theorem B_S_renew_0 {x1 x2 : Int} {M : Mm} {Q : Mm → Option Mv → Prop} (H : Wq 1 0 0 mS_renew 12 [iR 72, iI x1, iI x2, iI 0] [] (sI (sI M 72 1 x1) 72 2 x2) Q) : Wq 1 0 0 mS_renew 0 [iR 72, iI x1, iI x2, none] [] M Q := by
  refine wq_aload_n (pc := 0) dS_renew_0 rfl rfl ?_
  refine wq_iload_n (pc := 1) dS_renew_1 rfl rfl ?_
  refine wq_putI (pc := 2) (z := 1) dS_renew_2 fW_S_15 sh_72 rfl rfl ?_
  refine wq_aload_n (pc := 5) dS_renew_5 rfl rfl ?_
  refine wq_iload_n (pc := 6) dS_renew_6 rfl rfl ?_
  refine wq_putI (pc := 7) (z := 2) dS_renew_7 fW_S_19 sh_72 rfl rfl ?_
  refine wq_iconst (pc := 10) dS_renew_10 rfl ?_
  refine wq_istore_n (pc := 11) (lo' := [iR 72, iI x1, iI x2, iI 0]) dS_renew_11 rfl rfl rfl ?_
  exact H

set_option maxRecDepth 20000 in
theorem B_S_renew_12 {x1 x2 x3 : Int} {M : Mm} {Q : Mm → Option Mv → Prop} (hS : RefOK M) (H : ((24 ≤ x3 → Q M none) ∧ (¬ 24 ≤ x3 → (((0 ≤ x3 ∧ x3 < 24) ∧ (-2147483648 ≤ x3 + 1 ∧ x3 + 1 < 2147483648)) ∧ Wq 1 0 0 mS_renew 12 [iR 72, iI x1, iI x2, iI (x3 + 1)] [] (sI M 73 x3 0) Q)))) : Wq 1 0 0 mS_renew 12 [iR 72, iI x1, iI x2, iI x3] [] M Q := by
  refine wq_iload_n (pc := 12) dS_renew_12 rfl rfl ?_
  refine wq_bipush (pc := 13) dS_renew_13 rfl ?_
  refine wq_icmp_ge (pc := 15) (tgt := 31) dS_renew_15 (by decide) (fun c1 => ?_) (fun c1 => ?_)
  · have H := H.1 c1
    refine wq_return (pc := 31) dS_renew_31 trivial ?_
    exact H
  · have H := H.2 c1
    obtain ⟨⟨s2, s3⟩, H⟩ := H
    refine wq_aload_n (pc := 18) dS_renew_18 rfl rfl ?_
    refine wq_getR (pc := 19) (z := 0) (b := 73) dS_renew_19 fO_S_9 sh_72 rfl rfl (rf_72_0 hS) ?_
    refine wq_iload_n (pc := 22) dS_renew_22 rfl rfl ?_
    refine wq_iconst (pc := 23) dS_renew_23 rfl ?_
    refine wq_iast (pc := 24) dS_renew_24 sh_73 (by decide) s2.1 s2.2 ?_
    refine wq_iinc (pc := 25) (lo' := [iR 72, iI x1, iI x2, iI (x3 + 1)]) dS_renew_25 rfl rfl (by rw [show wr (x3 + 1) = x3 + 1 from (Eq.trans (wr_eq (by omega) (by omega)) (by omega))]; rfl) ?_
    refine wq_goto (pc := 28) (tgt := 12) dS_renew_28 (by decide) ?_
    exact H
set_option maxRecDepth 20000 in
theorem B_S_cut_0 {x1 : Int} {M : Mm} {Q : Mm → Option Mv → Prop} (H : ((¬ gI M 72 1 = 8 → ((¬ gI M 72 1 = 16 → Q M (some (vI x1))) ∧ (gI M 72 1 = 16 → Q M (some (vI (bS x1)))))) ∧ (gI M 72 1 = 8 → Q M (some (vI (bB x1)))))) : Wq 1 0 0 mS_cut 0 [iR 72, iI x1] [] M Q := by
  refine wq_aload_n (pc := 0) dS_cut_0 rfl rfl ?_
  refine wq_getI (pc := 1) (z := 1) dS_cut_1 fO_S_15 sh_72 rfl rfl ?_
  refine wq_bipush (pc := 4) dS_cut_4 rfl ?_
  refine wq_icmp_ne (pc := 6) (tgt := 12) dS_cut_6 (by decide) (fun c1 => ?_) (fun c1 => ?_)
  · have H := H.1 c1
    refine wq_aload_n (pc := 12) dS_cut_12 rfl rfl ?_
    refine wq_getI (pc := 13) (z := 1) dS_cut_13 fO_S_15 sh_72 rfl rfl ?_
    refine wq_bipush (pc := 16) dS_cut_16 rfl ?_
    refine wq_icmp_ne (pc := 18) (tgt := 26) dS_cut_18 (by decide) (fun c2 => ?_) (fun c2 => ?_)
    · have H := H.1 c2
      refine wq_iload_n (pc := 26) dS_cut_26 rfl rfl ?_
      refine wq_ireturn (pc := 27) dS_cut_27 trivial ?_
      exact H
    · have H := H.2 c2
      refine wq_iload_n (pc := 21) dS_cut_21 rfl rfl ?_
      refine wq_i2s (pc := 22) dS_cut_22 ?_
      refine wq_goto (pc := 23) (tgt := 27) dS_cut_23 (by decide) ?_
      refine wq_ireturn (pc := 27) dS_cut_27 trivial ?_
      exact H
  · have H := H.2 c1
    refine wq_iload_n (pc := 9) dS_cut_9 rfl rfl ?_
    refine wq_i2b (pc := 10) dS_cut_10 ?_
    refine wq_ireturn (pc := 11) dS_cut_11 trivial ?_
    exact H
