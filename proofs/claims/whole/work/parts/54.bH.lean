set_option maxRecDepth 20000 in
theorem B_M_needBy_0 {x1 : Int} {M : Mm} {Q : Mm → Option Mv → Prop} (H : Wq 2 0 0 mM_needBy 2 [iR 80, iI x1, iI 0] [] M Q) : Wq 2 0 0 mM_needBy 0 [iR 80, iI x1, none] [] M Q := by
  refine wq_iconst (pc := 0) dM_needBy_0 rfl ?_
  refine wq_istore_n (pc := 1) (lo' := [iR 80, iI x1, iI 0]) dM_needBy_1 rfl rfl rfl ?_
  exact H

set_option maxRecDepth 20000 in
theorem B_M_needBy_2 {x1 x2 : Int} {M : Mm} {Q : Mm → Option Mv → Prop} (hS : RefOK M) (H : ((gI M 81 2 ≤ x2 → Wq 2 0 0 mM_needBy 27 [iR 80, iI x1, iI 0] [] M Q) ∧ (¬ gI M 81 2 ≤ x2 → (((0 ≤ x2 ∧ x2 < 16) ∧ (-2147483648 ≤ x2 + 1 ∧ x2 + 1 < 2147483648)) ∧ Wq 2 0 0 mM_needBy 2 [iR 80, iI x1, iI (x2 + 1)] [] (sI M 88 x2 0) Q)))) : Wq 2 0 0 mM_needBy 2 [iR 80, iI x1, iI x2] [] M Q := by
  refine wq_iload_n (pc := 2) dM_needBy_2 rfl rfl ?_
  refine wq_aload_n (pc := 3) dM_needBy_3 rfl rfl ?_
  refine wq_getR (pc := 4) (z := 0) (b := 81) dM_needBy_4 fO_M_9 sh_80 rfl rfl (rf_80_0 hS) ?_
  refine wq_iconst (pc := 7) dM_needBy_7 rfl ?_
  refine wq_iald (pc := 8) dM_needBy_8 sh_81 (by decide) (by decide) ?_
  refine wq_icmp_ge (pc := 9) (tgt := 25) dM_needBy_9 (by decide) (fun c1 => ?_) (fun c1 => ?_)
  · have H := H.1 c1
    refine wq_iconst (pc := 25) dM_needBy_25 rfl ?_
    refine wq_istore_n (pc := 26) (lo' := [iR 80, iI x1, iI 0]) dM_needBy_26 rfl rfl rfl ?_
    exact H
  · have H := H.2 c1
    obtain ⟨⟨s2, s3⟩, H⟩ := H
    refine wq_aload_n (pc := 12) dM_needBy_12 rfl rfl ?_
    refine wq_getR (pc := 13) (z := 9) (b := 88) dM_needBy_13 fO_M_31 sh_80 rfl rfl (rf_80_9 hS) ?_
    refine wq_iload_n (pc := 16) dM_needBy_16 rfl rfl ?_
    refine wq_iconst (pc := 17) dM_needBy_17 rfl ?_
    refine wq_iast (pc := 18) dM_needBy_18 sh_88 (by decide) s2.1 s2.2 ?_
    refine wq_iinc (pc := 19) (lo' := [iR 80, iI x1, iI (x2 + 1)]) dM_needBy_19 rfl rfl (by rw [show wr (x2 + 1) = x2 + 1 from (Eq.trans (wr_eq (by omega) (by omega)) (by omega))]; rfl) ?_
    refine wq_goto (pc := 22) (tgt := 2) dM_needBy_22 (by decide) ?_
    exact H

set_option maxRecDepth 20000 in
theorem B_M_needBy_27 {x1 x2 : Int} {M : Mm} {Q : Mm → Option Mv → Prop} (hS : RefOK M) (H : ((gI M 81 4 ≤ x2 → Q M none) ∧ (¬ gI M 81 4 ≤ x2 → (((0 ≤ 148 + 7 * x2 ∧ 148 + 7 * x2 < 1993) ∧ (0 ≤ gI M 81 (148 + 7 * x2) ∧ gI M 81 (148 + 7 * x2) < 16) ∧ (0 ≤ x1 ∧ x1 < 2147483648 ∧ 0 ≤ x2 ∧ x2 < 32)) ∧ ((hb x1 x2 = true → (((0 ≤ 151 + 7 * x2 ∧ 151 + 7 * x2 < 1993) ∧ (-2147483648 ≤ gI M 88 (gI M 81 (148 + 7 * x2)) + gI M 81 (151 + 7 * x2) ∧ gI M 88 (gI M 81 (148 + 7 * x2)) + gI M 81 (151 + 7 * x2) < 2147483648) ∧ (-2147483648 ≤ x2 + 1 ∧ x2 + 1 < 2147483648)) ∧ Wq 2 0 0 mM_needBy 27 [iR 80, iI x1, iI (x2 + 1)] [] (sI M 88 (gI M 81 (148 + 7 * x2)) (gI M 88 (gI M 81 (148 + 7 * x2)) + gI M 81 (151 + 7 * x2))) Q)) ∧ (¬ (hb x1 x2 = true) → (((-2147483648 ≤ gI M 88 (gI M 81 (148 + 7 * x2)) ∧ gI M 88 (gI M 81 (148 + 7 * x2)) < 2147483648) ∧ (-2147483648 ≤ x2 + 1 ∧ x2 + 1 < 2147483648)) ∧ Wq 2 0 0 mM_needBy 27 [iR 80, iI x1, iI (x2 + 1)] [] (sI M 88 (gI M 81 (148 + 7 * x2)) (gI M 88 (gI M 81 (148 + 7 * x2)))) Q))))))) : Wq 2 0 0 mM_needBy 27 [iR 80, iI x1, iI x2] [] M Q := by
  refine wq_iload_n (pc := 27) dM_needBy_27 rfl rfl ?_
  refine wq_aload_n (pc := 28) dM_needBy_28 rfl rfl ?_
  refine wq_getR (pc := 29) (z := 0) (b := 81) dM_needBy_29 fO_M_9 sh_80 rfl rfl (rf_80_0 hS) ?_
  refine wq_iconst (pc := 32) dM_needBy_32 rfl ?_
  refine wq_iald (pc := 33) dM_needBy_33 sh_81 (by decide) (by decide) ?_
  refine wq_icmp_ge (pc := 34) (tgt := 75) dM_needBy_34 (by decide) (fun c1 => ?_) (fun c1 => ?_)
  · have H := H.1 c1
    refine wq_return (pc := 75) dM_needBy_75 trivial ?_
    exact H
  · have H := H.2 c1
    obtain ⟨⟨s2, s3, s4⟩, H⟩ := H
    refine wq_aload_n (pc := 37) dM_needBy_37 rfl rfl ?_
    refine wq_getR (pc := 38) (z := 9) (b := 88) dM_needBy_38 fO_M_31 sh_80 rfl rfl (rf_80_9 hS) ?_
    refine wq_aload_n (pc := 41) dM_needBy_41 rfl rfl ?_
    refine wq_iload_n (pc := 42) dM_needBy_42 rfl rfl ?_
    refine wq_iconst (pc := 43) dM_needBy_43 rfl ?_
    refine wq_callV (d' := 1) (pc := 44) (as := [vI x2, vI 0]) (rest := [vR 88]) (lo' := [iR 80, iI x2, iI 0]) dM_needBy_44 mO_M_event2 lV_M_123 sh_80 (by decide) cl_11 rfl rfl rfl rfl rfl rfl ?_
    refine sp_M_event2 (i := (148 + 7 * x2)) (by omega) hS s2 ?_
    show Wq 2 0 0 mM_needBy 47 [iR 80, iI x1, iI x2] [vI (gI M 81 (148 + 7 * x2)), vR 88] M _
    refine wq_dup2 (pc := 47) dM_needBy_47 rfl rfl ?_
    refine wq_iald (pc := 48) dM_needBy_48 sh_88 s3.1 s3.2 ?_
    refine wq_iload_n (pc := 49) dM_needBy_49 rfl rfl ?_
    refine wq_iload_n (pc := 50) dM_needBy_50 rfl rfl ?_
    refine wq_callS (d' := 1) (pc := 51) (as := [vI x1, vI x2]) (rest := [vI (gI M 88 (gI M 81 (148 + 7 * x2))), vI (gI M 81 (148 + 7 * x2)), vR 88]) (lo' := [iI x1, iI x2]) dM_needBy_51 mO_M_has lS_M_102 rfl rfl rfl rfl rfl rfl ?_
    refine sp_M_has s4 (fun c5 => ?_) (fun c5 => ?_)
    · have H := H.1 c5
      show Wq 2 0 0 mM_needBy 54 [iR 80, iI x1, iI x2] [vI 1, vI (gI M 88 (gI M 81 (148 + 7 * x2))), vI (gI M 81 (148 + 7 * x2)), vR 88] M _
      obtain ⟨⟨s6, s7, s8⟩, H⟩ := H
      refine wq_if_eq (pc := 54) (tgt := 66) dM_needBy_54 (by decide) (fun q => absurd q (by decide)) (fun _ => ?_)
      refine wq_aload_n (pc := 57) dM_needBy_57 rfl rfl ?_
      refine wq_iload_n (pc := 58) dM_needBy_58 rfl rfl ?_
      refine wq_iconst (pc := 59) dM_needBy_59 rfl ?_
      refine wq_callV (d' := 1) (pc := 60) (as := [vI x2, vI 3]) (rest := [vI (gI M 88 (gI M 81 (148 + 7 * x2))), vI (gI M 81 (148 + 7 * x2)), vR 88]) (lo' := [iR 80, iI x2, iI 3]) dM_needBy_60 mO_M_event2 lV_M_123 sh_80 (by decide) cl_11 rfl rfl rfl rfl rfl rfl ?_
      refine sp_M_event2 (i := (151 + 7 * x2)) (by omega) hS s6 ?_
      show Wq 2 0 0 mM_needBy 63 [iR 80, iI x1, iI x2] [vI (gI M 81 (151 + 7 * x2)), vI (gI M 88 (gI M 81 (148 + 7 * x2))), vI (gI M 81 (148 + 7 * x2)), vR 88] M _
      refine wq_goto (pc := 63) (tgt := 67) dM_needBy_63 (by decide) ?_
      refine wq_iadd (pc := 67) dM_needBy_67 ?_
      refine wq_re (x := (wr (gI M 88 (gI M 81 (148 + 7 * x2)) + gI M 81 (151 + 7 * x2)))) (y := (gI M 88 (gI M 81 (148 + 7 * x2)) + gI M 81 (151 + 7 * x2))) (Eq.trans (wr_eq (by omega) (by omega)) (by omega)) ?_
      refine wq_iast (pc := 68) dM_needBy_68 sh_88 (by decide) s3.1 s3.2 ?_
      refine wq_iinc (pc := 69) (lo' := [iR 80, iI x1, iI (x2 + 1)]) dM_needBy_69 rfl rfl (by rw [show wr (x2 + 1) = x2 + 1 from (Eq.trans (wr_eq (by omega) (by omega)) (by omega))]; rfl) ?_
      refine wq_goto (pc := 72) (tgt := 27) dM_needBy_72 (by decide) ?_
      exact H
    · have H := H.2 c5
      show Wq 2 0 0 mM_needBy 54 [iR 80, iI x1, iI x2] [vI 0, vI (gI M 88 (gI M 81 (148 + 7 * x2))), vI (gI M 81 (148 + 7 * x2)), vR 88] M _
      obtain ⟨⟨s9, s10⟩, H⟩ := H
      refine wq_if_eq (pc := 54) (tgt := 66) dM_needBy_54 (by decide) (fun _ => ?_) (fun q => absurd (by decide) q)
      refine wq_iconst (pc := 66) dM_needBy_66 rfl ?_
      refine wq_iadd (pc := 67) dM_needBy_67 ?_
      refine wq_re (x := (wr (gI M 88 (gI M 81 (148 + 7 * x2)) + 0))) (y := (gI M 88 (gI M 81 (148 + 7 * x2)))) (Eq.trans (wr_eq (by omega) (by omega)) (by omega)) ?_
      refine wq_iast (pc := 68) dM_needBy_68 sh_88 (by decide) s3.1 s3.2 ?_
      refine wq_iinc (pc := 69) (lo' := [iR 80, iI x1, iI (x2 + 1)]) dM_needBy_69 rfl rfl (by rw [show wr (x2 + 1) = x2 + 1 from (Eq.trans (wr_eq (by omega) (by omega)) (by omega))]; rfl) ?_
      refine wq_goto (pc := 72) (tgt := 27) dM_needBy_72 (by decide) ?_
      exact H
set_option maxRecDepth 20000 in
theorem B_M_endBy_0 {x1 : Int} {M : Mm} {Q : Mm → Option Mv → Prop} (H : Wq 2 0 0 mM_needBy 0 [iR 80, iI x1, none] [] M (fun M' v => Wq 5 0 0 mM_endBy 5 [iR 80, iI x1] (v.toList ++ []) M' Q)) : Wq 5 0 0 mM_endBy 0 [iR 80, iI x1] [] M Q := by
  refine wq_aload_n (pc := 0) dM_endBy_0 rfl rfl ?_
  refine wq_iload_n (pc := 1) dM_endBy_1 rfl rfl ?_
  refine wq_callV (d' := 2) (pc := 2) (as := [vI x1]) (rest := []) (lo' := [iR 80, iI x1, none]) dM_endBy_2 mO_M_needBy lV_M_154 sh_80 (by decide) cl_11 rfl rfl rfl rfl rfl rfl ?_
  exact H

set_option maxRecDepth 20000 in
theorem B_M_endBy_5 {x1 : Int} {M : Mm} {Q : Mm → Option Mv → Prop} (H : Wq 4 0 0 mM_goThrough 0 [iR 80, none, none, none, none, none] [] M (fun M' v => Wq 5 0 0 mM_endBy 9 [iR 80, iI x1] (v.toList ++ []) M' Q)) : Wq 5 0 0 mM_endBy 5 [iR 80, iI x1] [] M Q := by
  refine wq_aload_n (pc := 5) dM_endBy_5 rfl rfl ?_
  refine wq_callV (d' := 4) (pc := 6) (as := []) (rest := []) (lo' := [iR 80, none, none, none, none, none]) dM_endBy_6 mO_M_goThrough lV_M_158 sh_80 (by decide) cl_11 rfl rfl rfl rfl rfl rfl ?_
  exact H

set_option maxRecDepth 20000 in
theorem B_M_endBy_9 {x1 y0 : Int} {M : Mm} {Q : Mm → Option Mv → Prop} (H : Q M (some (vI y0))) : Wq 5 0 0 mM_endBy 9 [iR 80, iI x1] [vI y0] M Q := by
  refine wq_ireturn (pc := 9) dM_endBy_9 trivial ?_
  exact H
set_option maxRecDepth 20000 in
theorem B_M_goThrough_0 {M : Mm} {Q : Mm → Option Mv → Prop} (H : ((¬ gI M 80 13 = 0 → Wq 4 0 0 mM_goThrough 15 [iR 80, iI 0, iI 0, none, none, none] [] M Q) ∧ (gI M 80 13 = 0 → Wq 2 0 0 mM_sort 0 [iR 80, none, none, none, none, none] [] M (fun M' v => Wq 4 0 0 mM_goThrough 11 [iR 80, none, none, none, none, none] (v.toList ++ []) M' Q)))) : Wq 4 0 0 mM_goThrough 0 [iR 80, none, none, none, none, none] [] M Q := by
  refine wq_aload_n (pc := 0) dM_goThrough_0 rfl rfl ?_
  refine wq_getI (pc := 1) (z := 13) dM_goThrough_1 fO_M_135 sh_80 rfl rfl ?_
  refine wq_if_ne (pc := 4) (tgt := 11) dM_goThrough_4 (by decide) (fun c1 => ?_) (fun c1 => ?_)
  · have H := H.1 c1
    refine wq_iconst (pc := 11) dM_goThrough_11 rfl ?_
    refine wq_istore_n (pc := 12) (lo' := [iR 80, iI 0, none, none, none, none]) dM_goThrough_12 rfl rfl rfl ?_
    refine wq_iconst (pc := 13) dM_goThrough_13 rfl ?_
    refine wq_istore_n (pc := 14) (lo' := [iR 80, iI 0, iI 0, none, none, none]) dM_goThrough_14 rfl rfl rfl ?_
    exact H
  · have H := H.2 c1
    refine wq_aload_n (pc := 7) dM_goThrough_7 rfl rfl ?_
    refine wq_callV (d' := 2) (pc := 8) (as := []) (rest := []) (lo' := [iR 80, none, none, none, none, none]) dM_goThrough_8 mO_M_sort lV_M_147 sh_80 (by decide) cl_11 rfl rfl rfl rfl rfl rfl ?_
    exact H

set_option maxRecDepth 20000 in
theorem B_M_goThrough_11 {M : Mm} {Q : Mm → Option Mv → Prop} (H : Wq 4 0 0 mM_goThrough 15 [iR 80, iI 0, iI 0, none, none, none] [] M Q) : Wq 4 0 0 mM_goThrough 11 [iR 80, none, none, none, none, none] [] M Q := by
  refine wq_iconst (pc := 11) dM_goThrough_11 rfl ?_
  refine wq_istore_n (pc := 12) (lo' := [iR 80, iI 0, none, none, none, none]) dM_goThrough_12 rfl rfl rfl ?_
  refine wq_iconst (pc := 13) dM_goThrough_13 rfl ?_
  refine wq_istore_n (pc := 14) (lo' := [iR 80, iI 0, iI 0, none, none, none]) dM_goThrough_14 rfl rfl rfl ?_
  exact H

set_option maxRecDepth 20000 in
theorem B_M_goThrough_15 {x1 x2 : Int} {M : Mm} {Q : Mm → Option Mv → Prop} (hS : RefOK M) (H : ((gI M 81 2 ≤ x2 → Wq 4 0 0 mM_goThrough 45 [iR 80, iI x1, iI 0, none, none, none] [] M Q) ∧ (¬ gI M 81 2 ≤ x2 → (((0 ≤ x2 ∧ x2 < 16) ∧ (0 ≤ gI M 91 x2 ∧ gI M 91 x2 < 16) ∧ (-2147483648 ≤ x2 + 1 ∧ x2 + 1 < 2147483648)) ∧ Wq 4 0 0 mM_goThrough 15 [iR 80, iI x1, iI (x2 + 1), none, none, none] [] (sI M 89 (gI M 91 x2) 0) Q)))) : Wq 4 0 0 mM_goThrough 15 [iR 80, iI x1, iI x2, none, none, none] [] M Q := by
  refine wq_iload_n (pc := 15) dM_goThrough_15 rfl rfl ?_
  refine wq_aload_n (pc := 16) dM_goThrough_16 rfl rfl ?_
  refine wq_getR (pc := 17) (z := 0) (b := 81) dM_goThrough_17 fO_M_9 sh_80 rfl rfl (rf_80_0 hS) ?_
  refine wq_iconst (pc := 20) dM_goThrough_20 rfl ?_
  refine wq_iald (pc := 21) dM_goThrough_21 sh_81 (by decide) (by decide) ?_
  refine wq_icmp_ge (pc := 22) (tgt := 43) dM_goThrough_22 (by decide) (fun c1 => ?_) (fun c1 => ?_)
  · have H := H.1 c1
    refine wq_iconst (pc := 43) dM_goThrough_43 rfl ?_
    refine wq_istore_n (pc := 44) (lo' := [iR 80, iI x1, iI 0, none, none, none]) dM_goThrough_44 rfl rfl rfl ?_
    exact H
  · have H := H.2 c1
    obtain ⟨⟨s2, s3, s4⟩, H⟩ := H
    refine wq_aload_n (pc := 25) dM_goThrough_25 rfl rfl ?_
    refine wq_getR (pc := 26) (z := 10) (b := 89) dM_goThrough_26 fO_M_34 sh_80 rfl rfl (rf_80_10 hS) ?_
    refine wq_aload_n (pc := 29) dM_goThrough_29 rfl rfl ?_
    refine wq_getR (pc := 30) (z := 12) (b := 91) dM_goThrough_30 fO_M_40 sh_80 rfl rfl (rf_80_12 hS) ?_
    refine wq_iload_n (pc := 33) dM_goThrough_33 rfl rfl ?_
    refine wq_iald (pc := 34) dM_goThrough_34 sh_91 s2.1 s2.2 ?_
    refine wq_iconst (pc := 35) dM_goThrough_35 rfl ?_
    refine wq_iast (pc := 36) dM_goThrough_36 sh_89 (by decide) s3.1 s3.2 ?_
    refine wq_iinc (pc := 37) (lo' := [iR 80, iI x1, iI (x2 + 1), none, none, none]) dM_goThrough_37 rfl rfl (by rw [show wr (x2 + 1) = x2 + 1 from (Eq.trans (wr_eq (by omega) (by omega)) (by omega))]; rfl) ?_
    refine wq_goto (pc := 40) (tgt := 15) dM_goThrough_40 (by decide) ?_
    exact H

set_option maxRecDepth 20000 in
theorem B_M_goThrough_45 {x1 x2 : Int} {M : Mm} {Q : Mm → Option Mv → Prop} (hS : RefOK M) (H : ((gI M 81 2 ≤ x2 → Q M (some (vI x1))) ∧ (¬ gI M 81 2 ≤ x2 → (((0 ≤ x2 ∧ x2 < 16) ∧ (0 ≤ gI M 91 x2 ∧ gI M 91 x2 < 16) ∧ (0 ≤ 11 + 3 * gI M 91 x2 ∧ 11 + 3 * gI M 91 x2 < 1993) ∧ (-2147483648 ≤ gI M 81 (11 + 3 * gI M 91 x2) + gI M 88 (gI M 91 x2) ∧ gI M 81 (11 + 3 * gI M 91 x2) + gI M 88 (gI M 91 x2) < 2147483648)) ∧ Wq 3 0 0 mM_endOf 0 [iR 80, iI (gI M 91 x2), iI (gI M 89 (gI M 91 x2)), iI (gI M 81 (11 + 3 * gI M 91 x2) + gI M 88 (gI M 91 x2)), none, none, none] [] M (fun M' v => Wq 4 0 0 mM_goThrough 90 [iR 80, iI x1, iI x2, iI (gI M 91 x2), none, none] (v.toList ++ [vI (gI M 91 x2), vR 90]) M' Q))))) : Wq 4 0 0 mM_goThrough 45 [iR 80, iI x1, iI x2, none, none, none] [] M Q := by
  refine wq_iload_n (pc := 45) dM_goThrough_45 rfl rfl ?_
  refine wq_aload_n (pc := 46) dM_goThrough_46 rfl rfl ?_
  refine wq_getR (pc := 47) (z := 0) (b := 81) dM_goThrough_47 fO_M_9 sh_80 rfl rfl (rf_80_0 hS) ?_
  refine wq_iconst (pc := 50) dM_goThrough_50 rfl ?_
  refine wq_iald (pc := 51) dM_goThrough_51 sh_81 (by decide) (by decide) ?_
  refine wq_icmp_ge (pc := 52) (tgt := 198) dM_goThrough_52 (by decide) (fun c1 => ?_) (fun c1 => ?_)
  · have H := H.1 c1
    refine wq_iload_n (pc := 198) dM_goThrough_198 rfl rfl ?_
    refine wq_ireturn (pc := 199) dM_goThrough_199 trivial ?_
    exact H
  · have H := H.2 c1
    obtain ⟨⟨s2, s3, s4, s5⟩, H⟩ := H
    refine wq_aload_n (pc := 55) dM_goThrough_55 rfl rfl ?_
    refine wq_getR (pc := 56) (z := 12) (b := 91) dM_goThrough_56 fO_M_40 sh_80 rfl rfl (rf_80_12 hS) ?_
    refine wq_iload_n (pc := 59) dM_goThrough_59 rfl rfl ?_
    refine wq_iald (pc := 60) dM_goThrough_60 sh_91 s2.1 s2.2 ?_
    refine wq_istore_n (pc := 61) (lo' := [iR 80, iI x1, iI x2, iI (gI M 91 x2), none, none]) dM_goThrough_61 rfl rfl rfl ?_
    refine wq_aload_n (pc := 62) dM_goThrough_62 rfl rfl ?_
    refine wq_getR (pc := 63) (z := 11) (b := 90) dM_goThrough_63 fO_M_37 sh_80 rfl rfl (rf_80_11 hS) ?_
    refine wq_iload_n (pc := 66) dM_goThrough_66 rfl rfl ?_
    refine wq_aload_n (pc := 67) dM_goThrough_67 rfl rfl ?_
    refine wq_iload_n (pc := 68) dM_goThrough_68 rfl rfl ?_
    refine wq_aload_n (pc := 69) dM_goThrough_69 rfl rfl ?_
    refine wq_getR (pc := 70) (z := 10) (b := 89) dM_goThrough_70 fO_M_34 sh_80 rfl rfl (rf_80_10 hS) ?_
    refine wq_iload_n (pc := 73) dM_goThrough_73 rfl rfl ?_
    refine wq_iald (pc := 74) dM_goThrough_74 sh_89 s3.1 s3.2 ?_
    refine wq_aload_n (pc := 75) dM_goThrough_75 rfl rfl ?_
    refine wq_iload_n (pc := 76) dM_goThrough_76 rfl rfl ?_
    refine wq_callV (d' := 1) (pc := 77) (as := [vI (gI M 91 x2)]) (rest := [vI (gI M 89 (gI M 91 x2)), vI (gI M 91 x2), vR 80, vI (gI M 91 x2), vR 90]) (lo' := [iR 80, iI (gI M 91 x2)]) dM_goThrough_77 mO_M_longOf lV_M_95 sh_80 (by decide) cl_11 rfl rfl rfl rfl rfl rfl ?_
    refine sp_M_longOf hS s4 ?_
    show Wq 4 0 0 mM_goThrough 80 [iR 80, iI x1, iI x2, iI (gI M 91 x2), none, none] [vI (gI M 81 (11 + 3 * gI M 91 x2)), vI (gI M 89 (gI M 91 x2)), vI (gI M 91 x2), vR 80, vI (gI M 91 x2), vR 90] M _
    refine wq_aload_n (pc := 80) dM_goThrough_80 rfl rfl ?_
    refine wq_getR (pc := 81) (z := 9) (b := 88) dM_goThrough_81 fO_M_31 sh_80 rfl rfl (rf_80_9 hS) ?_
    refine wq_iload_n (pc := 84) dM_goThrough_84 rfl rfl ?_
    refine wq_iald (pc := 85) dM_goThrough_85 sh_88 s3.1 s3.2 ?_
    refine wq_iadd (pc := 86) dM_goThrough_86 ?_
    refine wq_re (x := (wr (gI M 81 (11 + 3 * gI M 91 x2) + gI M 88 (gI M 91 x2)))) (y := (gI M 81 (11 + 3 * gI M 91 x2) + gI M 88 (gI M 91 x2))) (Eq.trans (wr_eq (by omega) (by omega)) (by omega)) ?_
    refine wq_callV (d' := 3) (pc := 87) (as := [vI (gI M 91 x2), vI (gI M 89 (gI M 91 x2)), vI (gI M 81 (11 + 3 * gI M 91 x2) + gI M 88 (gI M 91 x2))]) (rest := [vI (gI M 91 x2), vR 90]) (lo' := [iR 80, iI (gI M 91 x2), iI (gI M 89 (gI M 91 x2)), iI (gI M 81 (11 + 3 * gI M 91 x2) + gI M 88 (gI M 91 x2)), none, none, none]) dM_goThrough_87 mO_M_endOf lV_M_150 sh_80 (by decide) cl_11 rfl rfl rfl rfl rfl rfl ?_
    exact H

set_option maxRecDepth 20000 in
theorem B_M_goThrough_90 {x1 x2 x3 y0 : Int} {M : Mm} {Q : Mm → Option Mv → Prop} (hS : RefOK M) (H : ((0 ≤ x3 ∧ x3 < 16) ∧ Wq 4 0 0 mM_goThrough 105 [iR 80, iI (max x1 y0), iI x2, iI x3, iI 0, none] [] (sI M 90 x3 y0) Q)) : Wq 4 0 0 mM_goThrough 90 [iR 80, iI x1, iI x2, iI x3, none, none] [vI y0, vI x3, vR 90] M Q := by
  obtain ⟨s1, H⟩ := H
  refine wq_iast (pc := 90) dM_goThrough_90 sh_90 (by decide) s1.1 s1.2 ?_
  refine wq_iload_n (pc := 91) dM_goThrough_91 rfl rfl ?_
  refine wq_aload_n (pc := 92) dM_goThrough_92 rfl rfl ?_
  refine wq_getR (pc := 93) (z := 11) (b := 90) dM_goThrough_93 fO_M_37 sh_80 rfl rfl (rf_80_11 hS) ?_
  refine wq_iload_n (pc := 96) dM_goThrough_96 rfl rfl ?_
  refine wq_iald (pc := 97) dM_goThrough_97 sh_90 s1.1 s1.2 ?_
  refine wq_re (x := (gI (sI M 90 x3 y0) 90 x3)) (y := y0) gI_s ?_
  refine wq_max (pc := 98) dM_goThrough_98 xO_M_139 rfl ?_
  refine wq_istore_n (pc := 101) (lo' := [iR 80, iI (max x1 y0), iI x2, iI x3, none, none]) dM_goThrough_101 rfl rfl rfl ?_
  refine wq_iconst (pc := 102) dM_goThrough_102 rfl ?_
  refine wq_istore (pc := 103) (lo' := [iR 80, iI (max x1 y0), iI x2, iI x3, iI 0, none]) dM_goThrough_103 rfl rfl ?_
  exact H

set_option maxRecDepth 20000 in
theorem B_M_goThrough_105 {x1 x2 x3 x4 : Int} {M : Mm} {Q : Mm → Option Mv → Prop} (hS : RefOK M) (H : ((gI M 81 3 ≤ x4 → ((-2147483648 ≤ x2 + 1 ∧ x2 + 1 < 2147483648) ∧ Wq 4 0 0 mM_goThrough 45 [iR 80, iI x1, iI (x2 + 1), none, none, none] [] M Q)) ∧ (¬ gI M 81 3 ≤ x4 → ((0 ≤ 58 + 3 * x4 ∧ 58 + 3 * x4 < 1993) ∧ ((¬ gI M 81 (58 + 3 * x4) = x3 → ((-2147483648 ≤ x4 + 1 ∧ x4 + 1 < 2147483648) ∧ Wq 4 0 0 mM_goThrough 105 [iR 80, iI x1, iI x2, iI x3, iI (x4 + 1), none] [] M Q)) ∧ (gI M 81 (58 + 3 * x4) = x3 → (((0 ≤ 59 + 3 * x4 ∧ 59 + 3 * x4 < 1993) ∧ (0 ≤ gI M 81 (59 + 3 * x4) ∧ gI M 81 (59 + 3 * x4) < 16) ∧ (0 ≤ x3 ∧ x3 < 16) ∧ (0 ≤ 60 + 3 * x4 ∧ 60 + 3 * x4 < 1993) ∧ (-2147483648 ≤ gI M 90 x3 + gI M 81 (60 + 3 * x4) ∧ gI M 90 x3 + gI M 81 (60 + 3 * x4) < 2147483648) ∧ (-2147483648 ≤ x4 + 1 ∧ x4 + 1 < 2147483648)) ∧ Wq 4 0 0 mM_goThrough 105 [iR 80, iI x1, iI x2, iI x3, iI (x4 + 1), none] [] (sI M 89 (gI M 81 (59 + 3 * x4)) (max (gI M 89 (gI M 81 (59 + 3 * x4))) (gI M 90 x3 + gI M 81 (60 + 3 * x4)))) Q))))))) : Wq 4 0 0 mM_goThrough 105 [iR 80, iI x1, iI x2, iI x3, iI x4, none] [] M Q := by
  refine wq_iload (pc := 105) dM_goThrough_105 rfl ?_
  refine wq_aload_n (pc := 107) dM_goThrough_107 rfl rfl ?_
  refine wq_getR (pc := 108) (z := 0) (b := 81) dM_goThrough_108 fO_M_9 sh_80 rfl rfl (rf_80_0 hS) ?_
  refine wq_iconst (pc := 111) dM_goThrough_111 rfl ?_
  refine wq_iald (pc := 112) dM_goThrough_112 sh_81 (by decide) (by decide) ?_
  refine wq_icmp_ge (pc := 113) (tgt := 192) dM_goThrough_113 (by decide) (fun c1 => ?_) (fun c1 => ?_)
  · have H := H.1 c1
    obtain ⟨s2, H⟩ := H
    refine wq_iinc (pc := 192) (lo' := [iR 80, iI x1, iI (x2 + 1), iI x3, iI x4, none]) dM_goThrough_192 rfl rfl (by rw [show wr (x2 + 1) = x2 + 1 from (Eq.trans (wr_eq (by omega) (by omega)) (by omega))]; rfl) ?_
    refine wq_goto (pc := 195) (tgt := 45) dM_goThrough_195 (by decide) ?_
    refine wq_drop [3, 4] (lo' := [iR 80, iI x1, iI (x2 + 1), none, none, none]) rfl ?_
    exact H
  · have H := H.2 c1
    obtain ⟨s3, H⟩ := H
    refine wq_aload_n (pc := 116) dM_goThrough_116 rfl rfl ?_
    refine wq_getR (pc := 117) (z := 0) (b := 81) dM_goThrough_117 fO_M_9 sh_80 rfl rfl (rf_80_0 hS) ?_
    refine wq_bipush (pc := 120) dM_goThrough_120 rfl ?_
    refine wq_iconst (pc := 122) dM_goThrough_122 rfl ?_
    refine wq_iload (pc := 123) dM_goThrough_123 rfl ?_
    refine wq_imul (pc := 125) dM_goThrough_125 ?_
    refine wq_iadd (pc := 126) dM_goThrough_126 ?_
    refine wq_re (x := (wr (58 + wr (3 * x4)))) (y := (58 + 3 * x4)) (by (try simp only [wr_al, wr_ar, wr_sl, wr_sr, wr_ml, wr_mr, wr_nn, wr_ww]); exact Eq.trans (wr_eq (by omega) (by omega)) (by omega)) ?_
    refine wq_iald (pc := 127) dM_goThrough_127 sh_81 s3.1 s3.2 ?_
    refine wq_iload_n (pc := 128) dM_goThrough_128 rfl rfl ?_
    refine wq_icmp_ne (pc := 129) (tgt := 186) dM_goThrough_129 (by decide) (fun c4 => ?_) (fun c4 => ?_)
    · have H := H.1 c4
      obtain ⟨s5, H⟩ := H
      refine wq_iinc (pc := 186) (lo' := [iR 80, iI x1, iI x2, iI x3, iI (x4 + 1), none]) dM_goThrough_186 rfl rfl (by rw [show wr (x4 + 1) = x4 + 1 from (Eq.trans (wr_eq (by omega) (by omega)) (by omega))]; rfl) ?_
      refine wq_goto (pc := 189) (tgt := 105) dM_goThrough_189 (by decide) ?_
      exact H
    · have H := H.2 c4
      obtain ⟨⟨s6, s7, s8, s9, s10, s11⟩, H⟩ := H
      refine wq_aload_n (pc := 132) dM_goThrough_132 rfl rfl ?_
      refine wq_getR (pc := 133) (z := 0) (b := 81) dM_goThrough_133 fO_M_9 sh_80 rfl rfl (rf_80_0 hS) ?_
      refine wq_bipush (pc := 136) dM_goThrough_136 rfl ?_
      refine wq_iconst (pc := 138) dM_goThrough_138 rfl ?_
      refine wq_iload (pc := 139) dM_goThrough_139 rfl ?_
      refine wq_imul (pc := 141) dM_goThrough_141 ?_
      refine wq_iadd (pc := 142) dM_goThrough_142 ?_
      refine wq_iconst (pc := 143) dM_goThrough_143 rfl ?_
      refine wq_iadd (pc := 144) dM_goThrough_144 ?_
      refine wq_re (x := (wr (wr (58 + wr (3 * x4)) + 1))) (y := (59 + 3 * x4)) (by (try simp only [wr_al, wr_ar, wr_sl, wr_sr, wr_ml, wr_mr, wr_nn, wr_ww]); exact Eq.trans (wr_eq (by omega) (by omega)) (by omega)) ?_
      refine wq_iald (pc := 145) dM_goThrough_145 sh_81 s6.1 s6.2 ?_
      refine wq_istore (pc := 146) (lo' := [iR 80, iI x1, iI x2, iI x3, iI x4, iI (gI M 81 (59 + 3 * x4))]) dM_goThrough_146 rfl rfl ?_
      refine wq_aload_n (pc := 148) dM_goThrough_148 rfl rfl ?_
      refine wq_getR (pc := 149) (z := 10) (b := 89) dM_goThrough_149 fO_M_34 sh_80 rfl rfl (rf_80_10 hS) ?_
      refine wq_iload (pc := 152) dM_goThrough_152 rfl ?_
      refine wq_aload_n (pc := 154) dM_goThrough_154 rfl rfl ?_
      refine wq_getR (pc := 155) (z := 10) (b := 89) dM_goThrough_155 fO_M_34 sh_80 rfl rfl (rf_80_10 hS) ?_
      refine wq_iload (pc := 158) dM_goThrough_158 rfl ?_
      refine wq_iald (pc := 160) dM_goThrough_160 sh_89 s7.1 s7.2 ?_
      refine wq_aload_n (pc := 161) dM_goThrough_161 rfl rfl ?_
      refine wq_getR (pc := 162) (z := 11) (b := 90) dM_goThrough_162 fO_M_37 sh_80 rfl rfl (rf_80_11 hS) ?_
      refine wq_iload_n (pc := 165) dM_goThrough_165 rfl rfl ?_
      refine wq_iald (pc := 166) dM_goThrough_166 sh_90 s8.1 s8.2 ?_
      refine wq_aload_n (pc := 167) dM_goThrough_167 rfl rfl ?_
      refine wq_getR (pc := 168) (z := 0) (b := 81) dM_goThrough_168 fO_M_9 sh_80 rfl rfl (rf_80_0 hS) ?_
      refine wq_bipush (pc := 171) dM_goThrough_171 rfl ?_
      refine wq_iconst (pc := 173) dM_goThrough_173 rfl ?_
      refine wq_iload (pc := 174) dM_goThrough_174 rfl ?_
      refine wq_imul (pc := 176) dM_goThrough_176 ?_
      refine wq_iadd (pc := 177) dM_goThrough_177 ?_
      refine wq_iconst (pc := 178) dM_goThrough_178 rfl ?_
      refine wq_iadd (pc := 179) dM_goThrough_179 ?_
      refine wq_re (x := (wr (wr (58 + wr (3 * x4)) + 2))) (y := (60 + 3 * x4)) (by (try simp only [wr_al, wr_ar, wr_sl, wr_sr, wr_ml, wr_mr, wr_nn, wr_ww]); exact Eq.trans (wr_eq (by omega) (by omega)) (by omega)) ?_
      refine wq_iald (pc := 180) dM_goThrough_180 sh_81 s9.1 s9.2 ?_
      refine wq_iadd (pc := 181) dM_goThrough_181 ?_
      refine wq_re (x := (wr (gI M 90 x3 + gI M 81 (60 + 3 * x4)))) (y := (gI M 90 x3 + gI M 81 (60 + 3 * x4))) (Eq.trans (wr_eq (by omega) (by omega)) (by omega)) ?_
      refine wq_max (pc := 182) dM_goThrough_182 xO_M_139 rfl ?_
      refine wq_iast (pc := 185) dM_goThrough_185 sh_89 (by decide) s7.1 s7.2 ?_
      refine wq_iinc (pc := 186) (lo' := [iR 80, iI x1, iI x2, iI x3, iI (x4 + 1), iI (gI M 81 (59 + 3 * x4))]) dM_goThrough_186 rfl rfl (by rw [show wr (x4 + 1) = x4 + 1 from (Eq.trans (wr_eq (by omega) (by omega)) (by omega))]; rfl) ?_
      refine wq_goto (pc := 189) (tgt := 105) dM_goThrough_189 (by decide) ?_
      refine wq_drop [5] (lo' := [iR 80, iI x1, iI x2, iI x3, iI (x4 + 1), none]) rfl ?_
      exact H
