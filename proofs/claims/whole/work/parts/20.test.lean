set_option maxRecDepth 20000 in
theorem B_M_has_0 {x0 x1 : Int} {M : Mm} {Q : Mm → Option Mv → Prop} (H : ((¬ bAnd (bShr x0 x1) 1 = 1 → Q M (some (vI 0))) ∧ (bAnd (bShr x0 x1) 1 = 1 → Q M (some (vI 1))))) : Wq 1 0 0 mM_has 0 [iI x0, iI x1] [] M Q := by
  refine wq_iload_n (pc := 0) dM_has_0 rfl rfl ?_
  refine wq_iload_n (pc := 1) dM_has_1 rfl rfl ?_
  refine wq_ishr (pc := 2) dM_has_2 ?_
  refine wq_iconst (pc := 3) dM_has_3 rfl ?_
  refine wq_iand (pc := 4) dM_has_4 ?_
  refine wq_iconst (pc := 5) dM_has_5 rfl ?_
  refine wq_icmp_ne (pc := 6) (tgt := 13) dM_has_6 (by decide) (fun c1 => ?_) (fun c1 => ?_)
  · have H := H.1 c1
    refine wq_iconst (pc := 13) dM_has_13 rfl ?_
    refine wq_ireturn (pc := 14) dM_has_14 (Or.inl rfl) ?_
    exact H
  · have H := H.2 c1
    refine wq_iconst (pc := 9) dM_has_9 rfl ?_
    refine wq_goto (pc := 10) (tgt := 14) dM_has_10 (by decide) ?_
    refine wq_ireturn (pc := 14) dM_has_14 (Or.inr rfl) ?_
    exact H
set_option maxRecDepth 20000 in
theorem B_D_within_0 {x0 x1 x2 : Int} {M : Mm} {Q : Mm → Option Mv → Prop} (H : ((x0 < x1 → Q M (some (vI 0))) ∧ (¬ x0 < x1 → ((x2 < x0 → Q M (some (vI 0))) ∧ (¬ x2 < x0 → Q M (some (vI 1))))))) : Wq 1 0 0 mD_within 0 [iI x0, iI x1, iI x2] [] M Q := by
  refine wq_iload_n (pc := 0) dD_within_0 rfl rfl ?_
  refine wq_iload_n (pc := 1) dD_within_1 rfl rfl ?_
  refine wq_icmp_lt (pc := 2) (tgt := 14) dD_within_2 (by decide) (fun c1 => ?_) (fun c1 => ?_)
  · have H := H.1 c1
    refine wq_iconst (pc := 14) dD_within_14 rfl ?_
    refine wq_ireturn (pc := 15) dD_within_15 (Or.inl rfl) ?_
    exact H
  · have H := H.2 c1
    refine wq_iload_n (pc := 5) dD_within_5 rfl rfl ?_
    refine wq_iload_n (pc := 6) dD_within_6 rfl rfl ?_
    refine wq_icmp_gt (pc := 7) (tgt := 14) dD_within_7 (by decide) (fun c2 => ?_) (fun c2 => ?_)
    · have H := H.1 c2
      refine wq_iconst (pc := 14) dD_within_14 rfl ?_
      refine wq_ireturn (pc := 15) dD_within_15 (Or.inl rfl) ?_
      exact H
    · have H := H.2 c2
      refine wq_iconst (pc := 10) dD_within_10 rfl ?_
      refine wq_goto (pc := 11) (tgt := 15) dD_within_11 (by decide) ?_
      refine wq_ireturn (pc := 15) dD_within_15 (Or.inr rfl) ?_
      exact H
set_option maxRecDepth 20000 in
theorem B_D_holds_0 {x0 x1 : Int} {M : Mm} {Q : Mm → Option Mv → Prop} (H : ((bAnd (bShr x0 x1) 1 = 0 → Q M (some (vI 0))) ∧ (¬ bAnd (bShr x0 x1) 1 = 0 → Q M (some (vI 1))))) : Wq 1 0 0 mD_holds 0 [iI x0, iI x1] [] M Q := by
  refine wq_iload_n (pc := 0) dD_holds_0 rfl rfl ?_
  refine wq_iload_n (pc := 1) dD_holds_1 rfl rfl ?_
  refine wq_ishr (pc := 2) dD_holds_2 ?_
  refine wq_iconst (pc := 3) dD_holds_3 rfl ?_
  refine wq_iand (pc := 4) dD_holds_4 ?_
  refine wq_if_eq (pc := 5) (tgt := 12) dD_holds_5 (by decide) (fun c1 => ?_) (fun c1 => ?_)
  · have H := H.1 c1
    refine wq_iconst (pc := 12) dD_holds_12 rfl ?_
    refine wq_ireturn (pc := 13) dD_holds_13 (Or.inl rfl) ?_
    exact H
  · have H := H.2 c1
    refine wq_iconst (pc := 8) dD_holds_8 rfl ?_
    refine wq_goto (pc := 9) (tgt := 13) dD_holds_9 (by decide) ?_
    refine wq_ireturn (pc := 13) dD_holds_13 (Or.inr rfl) ?_
    exact H
set_option maxRecDepth 20000 in
theorem B_M_above_0 {x0 : Int} {M : Mm} {Q : Mm → Option Mv → Prop} (H : ((x0 = 3 → Q M (some (vI 2))) ∧ (¬ x0 = 3 → ((¬ x0 = 5 → ((¬ x0 = 0 → Q M (some (vI 0))) ∧ (x0 = 0 → Q M (some (vI (-1)))))) ∧ (x0 = 5 → Q M (some (vI 2))))))) : Wq 1 0 0 mM_above 0 [iI x0] [] M Q := by
  refine wq_iload_n (pc := 0) dM_above_0 rfl rfl ?_
  refine wq_iconst (pc := 1) dM_above_1 rfl ?_
  refine wq_icmp_eq (pc := 2) (tgt := 10) dM_above_2 (by decide) (fun c1 => ?_) (fun c1 => ?_)
  · have H := H.1 c1
    refine wq_iconst (pc := 10) dM_above_10 rfl ?_
    refine wq_goto (pc := 11) (tgt := 23) dM_above_11 (by decide) ?_
    refine wq_ireturn (pc := 23) dM_above_23 trivial ?_
    exact H
  · have H := H.2 c1
    refine wq_iload_n (pc := 5) dM_above_5 rfl rfl ?_
    refine wq_iconst (pc := 6) dM_above_6 rfl ?_
    refine wq_icmp_ne (pc := 7) (tgt := 14) dM_above_7 (by decide) (fun c2 => ?_) (fun c2 => ?_)
    · have H := H.1 c2
      refine wq_iload_n (pc := 14) dM_above_14 rfl rfl ?_
      refine wq_if_ne (pc := 15) (tgt := 22) dM_above_15 (by decide) (fun c3 => ?_) (fun c3 => ?_)
      · have H := H.1 c3
        refine wq_iconst (pc := 22) dM_above_22 rfl ?_
        refine wq_ireturn (pc := 23) dM_above_23 trivial ?_
        exact H
      · have H := H.2 c3
        refine wq_iconst (pc := 18) dM_above_18 rfl ?_
        refine wq_goto (pc := 19) (tgt := 23) dM_above_19 (by decide) ?_
        refine wq_ireturn (pc := 23) dM_above_23 trivial ?_
        exact H
    · have H := H.2 c2
      refine wq_iconst (pc := 10) dM_above_10 rfl ?_
      refine wq_goto (pc := 11) (tgt := 23) dM_above_11 (by decide) ?_
      refine wq_ireturn (pc := 23) dM_above_23 trivial ?_
      exact H
set_option maxRecDepth 20000 in
theorem B_M_kindOf_0 {x1 : Int} {M : Mm} {Q : Mm → Option Mv → Prop} (hS : RefOK M) (H : ((0 ≤ 10 + 3 * x1 ∧ 10 + 3 * x1 < 1993) ∧ Q M (some (vI (gI M 81 (10 + 3 * x1)))))) : Wq 1 0 0 mM_kindOf 0 [iR 80, iI x1] [] M Q := by
  refine wq_aload_n (pc := 0) dM_kindOf_0 rfl rfl ?_
  refine wq_getR (pc := 1) (z := 0) (b := 81) dM_kindOf_1 fO_M_9 sh_80 rfl rfl (rf_80_0 hS) ?_
  refine wq_bipush (pc := 4) dM_kindOf_4 rfl ?_
  refine wq_iconst (pc := 6) dM_kindOf_6 rfl ?_
  refine wq_iload_n (pc := 7) dM_kindOf_7 rfl rfl ?_
  refine wq_imul (pc := 8) dM_kindOf_8 ?_
  refine wq_iadd (pc := 9) dM_kindOf_9 ?_
  refine wq_iconst (pc := 10) dM_kindOf_10 rfl ?_
  refine wq_iadd (pc := 11) dM_kindOf_11 ?_
  obtain ⟨s1, H⟩ := H
  refine wq_re (x := (wr (wr (10 + wr (3 * x1)) + 0))) (y := (10 + 3 * x1)) (by (try simp only [wr_al, wr_ar, wr_sl, wr_sr, wr_ml, wr_mr, wr_nn, wr_ww]); exact Eq.trans (wr_eq (by omega) (by omega)) (by omega)) ?_
  refine wq_iald (pc := 12) dM_kindOf_12 sh_81 s1.1 s1.2 ?_
  refine wq_ireturn (pc := 13) dM_kindOf_13 trivial ?_
  exact H
set_option maxRecDepth 20000 in
theorem B_M_finding_0 {x1 : Int} {M : Mm} {Q : Mm → Option Mv → Prop} (hS : RefOK M) (H : ((0 ≤ (-1000000) - x1 ∧ (-1000000) - x1 < 6) ∧ (-2147483648 ≤ gI M 83 ((-1000000) - x1) + 1 ∧ gI M 83 ((-1000000) - x1) + 1 < 2147483648) ∧ Q (sI M 83 ((-1000000) - x1) (gI M 83 ((-1000000) - x1) + 1)) (some (vI x1)))) : Wq 1 0 0 mM_finding 0 [iR 80, iI x1] [] M Q := by
  refine wq_aload_n (pc := 0) dM_finding_0 rfl rfl ?_
  refine wq_getR (pc := 1) (z := 3) (b := 83) dM_finding_1 fO_M_16 sh_80 rfl rfl (rf_80_3 hS) ?_
  refine wq_ldc (pc := 4) (z := (-1000000)) dM_finding_4 kO_M_67 (by decide) ?_
  refine wq_iload_n (pc := 6) dM_finding_6 rfl rfl ?_
  refine wq_isub (pc := 7) dM_finding_7 ?_
  obtain ⟨s1, H⟩ := H
  refine wq_re (x := (wr ((-1000000) - x1))) (y := ((-1000000) - x1)) (Eq.trans (wr_eq (by omega) (by omega)) (by omega)) ?_
  refine wq_dup2 (pc := 8) dM_finding_8 rfl rfl ?_
  refine wq_iald (pc := 9) dM_finding_9 sh_83 s1.1 s1.2 ?_
  refine wq_iconst (pc := 10) dM_finding_10 rfl ?_
  refine wq_iadd (pc := 11) dM_finding_11 ?_
  obtain ⟨s2, H⟩ := H
  refine wq_re (x := (wr (gI M 83 ((-1000000) - x1) + 1))) (y := (gI M 83 ((-1000000) - x1) + 1)) (Eq.trans (wr_eq (by omega) (by omega)) (by omega)) ?_
  refine wq_iast (pc := 12) dM_finding_12 sh_83 (by decide) s1.1 s1.2 ?_
  refine wq_iload_n (pc := 13) dM_finding_13 rfl rfl ?_
  refine wq_ireturn (pc := 14) dM_finding_14 trivial ?_
  exact H
set_option maxRecDepth 20000 in
theorem B_M_hurried_0 {x1 : Int} {M : Mm} {Q : Mm → Option Mv → Prop} (H : Wq 1 0 0 mM_hurried 4 [iR 80, iI x1, iI 0, iI 0] [] M Q) : Wq 1 0 0 mM_hurried 0 [iR 80, iI x1, none, none] [] M Q := by
  refine wq_iconst (pc := 0) dM_hurried_0 rfl ?_
  refine wq_istore_n (pc := 1) (lo' := [iR 80, iI x1, iI 0, none]) dM_hurried_1 rfl rfl rfl ?_
  refine wq_iconst (pc := 2) dM_hurried_2 rfl ?_
  refine wq_istore_n (pc := 3) (lo' := [iR 80, iI x1, iI 0, iI 0]) dM_hurried_3 rfl rfl rfl ?_
  exact H

set_option maxRecDepth 20000 in
theorem B_M_hurried_4 {x1 x2 x3 : Int} {M : Mm} {Q : Mm → Option Mv → Prop} (hS : RefOK M) (H : ((gI M 81 6 ≤ x3 → Q M (some (vI x2))) ∧ (¬ gI M 81 6 ≤ x3 → ((0 ≤ 1018 + 3 * x3 ∧ 1018 + 3 * x3 < 1993) ∧ ((¬ gI M 81 (1018 + 3 * x3) = x1 → ((-2147483648 ≤ x3 + 1 ∧ x3 + 1 < 2147483648) ∧ Wq 1 0 0 mM_hurried 4 [iR 80, iI x1, iI x2, iI (x3 + 1)] [] M Q)) ∧ (gI M 81 (1018 + 3 * x3) = x1 → ((0 ≤ 1018 + 3 * x3 + 1 ∧ 1018 + 3 * x3 + 1 < 1993) ∧ (-2147483648 ≤ x3 + 1 ∧ x3 + 1 < 2147483648) ∧ Wq 1 0 0 mM_hurried 4 [iR 80, iI x1, iI (gI M 81 (1018 + 3 * x3 + 1)), iI (x3 + 1)] [] M Q))))))) : Wq 1 0 0 mM_hurried 4 [iR 80, iI x1, iI x2, iI x3] [] M Q := by
  refine wq_iload_n (pc := 4) dM_hurried_4 rfl rfl ?_
  refine wq_aload_n (pc := 5) dM_hurried_5 rfl rfl ?_
  refine wq_getR (pc := 6) (z := 0) (b := 81) dM_hurried_6 fO_M_9 sh_80 rfl rfl (rf_80_0 hS) ?_
  refine wq_bipush (pc := 9) dM_hurried_9 rfl ?_
  refine wq_iald (pc := 11) dM_hurried_11 sh_81 (by decide) (by decide) ?_
  refine wq_icmp_ge (pc := 12) (tgt := 56) dM_hurried_12 (by decide) (fun c1 => ?_) (fun c1 => ?_)
  · have H := H.1 c1
    refine wq_iload_n (pc := 56) dM_hurried_56 rfl rfl ?_
    refine wq_ireturn (pc := 57) dM_hurried_57 trivial ?_
    exact H
  · have H := H.2 c1
    refine wq_aload_n (pc := 15) dM_hurried_15 rfl rfl ?_
    refine wq_getR (pc := 16) (z := 0) (b := 81) dM_hurried_16 fO_M_9 sh_80 rfl rfl (rf_80_0 hS) ?_
    refine wq_sipush (pc := 19) dM_hurried_19 rfl ?_
    refine wq_iconst (pc := 22) dM_hurried_22 rfl ?_
    refine wq_iload_n (pc := 23) dM_hurried_23 rfl rfl ?_
    refine wq_imul (pc := 24) dM_hurried_24 ?_
    refine wq_iadd (pc := 25) dM_hurried_25 ?_
    obtain ⟨s2, H⟩ := H
    refine wq_re (x := (wr (1018 + wr (3 * x3)))) (y := (1018 + 3 * x3)) (by (try simp only [wr_al, wr_ar, wr_sl, wr_sr, wr_ml, wr_mr, wr_nn, wr_ww]); exact Eq.trans (wr_eq (by omega) (by omega)) (by omega)) ?_
    refine wq_iald (pc := 26) dM_hurried_26 sh_81 s2.1 s2.2 ?_
    refine wq_iload_n (pc := 27) dM_hurried_27 rfl rfl ?_
    refine wq_icmp_ne (pc := 28) (tgt := 48) dM_hurried_28 (by decide) (fun c3 => ?_) (fun c3 => ?_)
    · have H := H.1 c3
      refine wq_iload_n (pc := 48) dM_hurried_48 rfl rfl ?_
      refine wq_istore_n (pc := 49) (lo' := [iR 80, iI x1, iI x2, iI x3]) dM_hurried_49 rfl rfl rfl ?_
      obtain ⟨s4, H⟩ := H
      refine wq_iinc (pc := 50) (lo' := [iR 80, iI x1, iI x2, iI (x3 + 1)]) dM_hurried_50 rfl rfl (by rw [show wr (x3 + 1) = x3 + 1 from (Eq.trans (wr_eq (by omega) (by omega)) (by omega))]; rfl) ?_
      refine wq_goto (pc := 53) (tgt := 4) dM_hurried_53 (by decide) ?_
      exact H
    · have H := H.2 c3
      refine wq_aload_n (pc := 31) dM_hurried_31 rfl rfl ?_
      refine wq_getR (pc := 32) (z := 0) (b := 81) dM_hurried_32 fO_M_9 sh_80 rfl rfl (rf_80_0 hS) ?_
      refine wq_sipush (pc := 35) dM_hurried_35 rfl ?_
      refine wq_iconst (pc := 38) dM_hurried_38 rfl ?_
      refine wq_iload_n (pc := 39) dM_hurried_39 rfl rfl ?_
      refine wq_imul (pc := 40) dM_hurried_40 ?_
      refine wq_iadd (pc := 41) dM_hurried_41 ?_
      refine wq_iconst (pc := 42) dM_hurried_42 rfl ?_
      refine wq_iadd (pc := 43) dM_hurried_43 ?_
      obtain ⟨s5, H⟩ := H
      refine wq_re (x := (wr (wr (1018 + wr (3 * x3)) + 1))) (y := (1018 + 3 * x3 + 1)) (by (try simp only [wr_al, wr_ar, wr_sl, wr_sr, wr_ml, wr_mr, wr_nn, wr_ww]); exact Eq.trans (wr_eq (by omega) (by omega)) (by omega)) ?_
      refine wq_iald (pc := 44) dM_hurried_44 sh_81 s5.1 s5.2 ?_
      refine wq_goto (pc := 45) (tgt := 49) dM_hurried_45 (by decide) ?_
      refine wq_istore_n (pc := 49) (lo' := [iR 80, iI x1, iI (gI M 81 (1018 + 3 * x3 + 1)), iI x3]) dM_hurried_49 rfl rfl rfl ?_
      obtain ⟨s6, H⟩ := H
      refine wq_iinc (pc := 50) (lo' := [iR 80, iI x1, iI (gI M 81 (1018 + 3 * x3 + 1)), iI (x3 + 1)]) dM_hurried_50 rfl rfl (by rw [show wr (x3 + 1) = x3 + 1 from (Eq.trans (wr_eq (by omega) (by omega)) (by omega))]; rfl) ?_
      refine wq_goto (pc := 53) (tgt := 4) dM_hurried_53 (by decide) ?_
      exact H
set_option maxRecDepth 20000 in
theorem B_M_longOf_0 {x1 : Int} {M : Mm} {Q : Mm → Option Mv → Prop} (hS : RefOK M) (H : ((0 ≤ 10 + 3 * x1 + 1 ∧ 10 + 3 * x1 + 1 < 1993) ∧ Q M (some (vI (gI M 81 (10 + 3 * x1 + 1)))))) : Wq 1 0 0 mM_longOf 0 [iR 80, iI x1] [] M Q := by
  refine wq_aload_n (pc := 0) dM_longOf_0 rfl rfl ?_
  refine wq_getR (pc := 1) (z := 0) (b := 81) dM_longOf_1 fO_M_9 sh_80 rfl rfl (rf_80_0 hS) ?_
  refine wq_bipush (pc := 4) dM_longOf_4 rfl ?_
  refine wq_iconst (pc := 6) dM_longOf_6 rfl ?_
  refine wq_iload_n (pc := 7) dM_longOf_7 rfl rfl ?_
  refine wq_imul (pc := 8) dM_longOf_8 ?_
  refine wq_iadd (pc := 9) dM_longOf_9 ?_
  refine wq_iconst (pc := 10) dM_longOf_10 rfl ?_
  refine wq_iadd (pc := 11) dM_longOf_11 ?_
  obtain ⟨s1, H⟩ := H
  refine wq_re (x := (wr (wr (10 + wr (3 * x1)) + 1))) (y := (10 + 3 * x1 + 1)) (by (try simp only [wr_al, wr_ar, wr_sl, wr_sr, wr_ml, wr_mr, wr_nn, wr_ww]); exact Eq.trans (wr_eq (by omega) (by omega)) (by omega)) ?_
  refine wq_iald (pc := 12) dM_longOf_12 sh_81 s1.1 s1.2 ?_
  refine wq_ireturn (pc := 13) dM_longOf_13 trivial ?_
  exact H
set_option maxRecDepth 20000 in
theorem B_M_event2_0 {x1 x2 : Int} {M : Mm} {Q : Mm → Option Mv → Prop} (hS : RefOK M) (H : ((0 ≤ 148 + 7 * x1 + x2 ∧ 148 + 7 * x1 + x2 < 1993) ∧ Q M (some (vI (gI M 81 (148 + 7 * x1 + x2)))))) : Wq 1 0 0 mM_event2 0 [iR 80, iI x1, iI x2] [] M Q := by
  refine wq_aload_n (pc := 0) dM_event2_0 rfl rfl ?_
  refine wq_getR (pc := 1) (z := 0) (b := 81) dM_event2_1 fO_M_9 sh_80 rfl rfl (rf_80_0 hS) ?_
  refine wq_sipush (pc := 4) dM_event2_4 rfl ?_
  refine wq_bipush (pc := 7) dM_event2_7 rfl ?_
  refine wq_iload_n (pc := 9) dM_event2_9 rfl rfl ?_
  refine wq_imul (pc := 10) dM_event2_10 ?_
  refine wq_iadd (pc := 11) dM_event2_11 ?_
  refine wq_iload_n (pc := 12) dM_event2_12 rfl rfl ?_
  refine wq_iadd (pc := 13) dM_event2_13 ?_
  obtain ⟨s1, H⟩ := H
  refine wq_re (x := (wr (wr (148 + wr (7 * x1)) + x2))) (y := (148 + 7 * x1 + x2)) (by (try simp only [wr_al, wr_ar, wr_sl, wr_sr, wr_ml, wr_mr, wr_nn, wr_ww]); exact Eq.trans (wr_eq (by omega) (by omega)) (by omega)) ?_
  refine wq_iald (pc := 14) dM_event2_14 sh_81 s1.1 s1.2 ?_
  refine wq_ireturn (pc := 15) dM_event2_15 trivial ?_
  exact H
set_option maxRecDepth 20000 in
theorem B_D_finding_0 {x1 : Int} {M : Mm} {Q : Mm → Option Mv → Prop} (H : ((-2147483648 ≤ (-1000000) - x1 ∧ (-1000000) - x1 < 2147483648) ∧ Wq 1 0 0 mD_within 0 [iI ((-1000000) - x1), iI 1, iI 5] [] M (fun M' v => Wq 2 0 0 mD_finding 12 [iR 0, iI x1, iI ((-1000000) - x1)] (v.toList ++ []) M' Q))) : Wq 2 0 0 mD_finding 0 [iR 0, iI x1, none] [] M Q := by
  refine wq_ldcw (pc := 0) (z := (-1000000)) dD_finding_0 kO_D_344 (by decide) ?_
  refine wq_iload_n (pc := 3) dD_finding_3 rfl rfl ?_
  refine wq_isub (pc := 4) dD_finding_4 ?_
  obtain ⟨s1, H⟩ := H
  refine wq_re (x := (wr ((-1000000) - x1))) (y := ((-1000000) - x1)) (Eq.trans (wr_eq (by omega) (by omega)) (by omega)) ?_
  refine wq_istore_n (pc := 5) (lo' := [iR 0, iI x1, iI ((-1000000) - x1)]) dD_finding_5 rfl rfl rfl ?_
  refine wq_iload_n (pc := 6) dD_finding_6 rfl rfl ?_
  refine wq_iconst (pc := 7) dD_finding_7 rfl ?_
  refine wq_iconst (pc := 8) dD_finding_8 rfl ?_
  refine wq_callS (d' := 1) (pc := 9) (as := [vI ((-1000000) - x1), vI 1, vI 5]) (rest := []) (lo' := [iI ((-1000000) - x1), iI 1, iI 5]) dD_finding_9 mO_D_within lS_D_65 rfl rfl rfl rfl rfl rfl ?_
  exact H

set_option maxRecDepth 20000 in
theorem B_D_finding_12 {x1 x2 y0 : Int} {M : Mm} {Q : Mm → Option Mv → Prop} (hS : RefOK M) (H : ((y0 = 0 → Q M (some (vI x1))) ∧ (¬ y0 = 0 → ((0 ≤ x2 ∧ x2 < 6) ∧ (-2147483648 ≤ gI M 69 x2 + 1 ∧ gI M 69 x2 + 1 < 2147483648) ∧ Q (sI M 69 x2 (gI M 69 x2 + 1)) (some (vI x1)))))) : Wq 2 0 0 mD_finding 12 [iR 0, iI x1, iI x2] [vI y0] M Q := by
  refine wq_if_eq (pc := 12) (tgt := 25) dD_finding_12 (by decide) (fun c1 => ?_) (fun c1 => ?_)
  · have H := H.1 c1
    refine wq_iload_n (pc := 25) dD_finding_25 rfl rfl ?_
    refine wq_ireturn (pc := 26) dD_finding_26 trivial ?_
    exact H
  · have H := H.2 c1
    refine wq_aload_n (pc := 15) dD_finding_15 rfl rfl ?_
    refine wq_getR (pc := 16) (z := 6) (b := 69) dD_finding_16 fO_D_46 sh_0 rfl rfl (rf_0_6 hS) ?_
    refine wq_iload_n (pc := 19) dD_finding_19 rfl rfl ?_
    refine wq_dup2 (pc := 20) dD_finding_20 rfl rfl ?_
    obtain ⟨s2, H⟩ := H
    refine wq_iald (pc := 21) dD_finding_21 sh_69 s2.1 s2.2 ?_
    refine wq_iconst (pc := 22) dD_finding_22 rfl ?_
    refine wq_iadd (pc := 23) dD_finding_23 ?_
    obtain ⟨s3, H⟩ := H
    refine wq_re (x := (wr (gI M 69 x2 + 1))) (y := (gI M 69 x2 + 1)) (Eq.trans (wr_eq (by omega) (by omega)) (by omega)) ?_
    refine wq_iast (pc := 24) dD_finding_24 sh_69 (by decide) s2.1 s2.2 ?_
    refine wq_iload_n (pc := 25) dD_finding_25 rfl rfl ?_
    refine wq_ireturn (pc := 26) dD_finding_26 trivial ?_
    exact H
set_option maxRecDepth 20000 in
theorem B_M_goesOn_0 {x1 x2 : Int} {M : Mm} {Q : Mm → Option Mv → Prop} (hS : RefOK M) (H : ((-2147483648 ≤ Int.tmod x2 7 ∧ Int.tmod x2 7 < 2147483648) ∧ Wq 1 0 0 mM_has 0 [iI (gI M 81 1), iI (Int.tmod x2 7)] [] M (fun M' v => Wq 2 0 0 mM_goesOn 13 [iR 80, iI x1, iI x2, none, none, none] (v.toList ++ []) M' Q))) : Wq 2 0 0 mM_goesOn 0 [iR 80, iI x1, iI x2, none, none, none] [] M Q := by
  refine wq_aload_n (pc := 0) dM_goesOn_0 rfl rfl ?_
  refine wq_getR (pc := 1) (z := 0) (b := 81) dM_goesOn_1 fO_M_9 sh_80 rfl rfl (rf_80_0 hS) ?_
  refine wq_iconst (pc := 4) dM_goesOn_4 rfl ?_
  refine wq_iald (pc := 5) dM_goesOn_5 sh_81 (by decide) (by decide) ?_
  refine wq_iload_n (pc := 6) dM_goesOn_6 rfl rfl ?_
  refine wq_bipush (pc := 7) dM_goesOn_7 rfl ?_
  refine wq_irem (pc := 9) dM_goesOn_9 (by decide) ?_
  obtain ⟨s1, H⟩ := H
  refine wq_re (x := (wr (Int.tmod x2 7))) (y := (Int.tmod x2 7)) (Eq.trans (wr_eq (by omega) (by omega)) (by omega)) ?_
  refine wq_callS (d' := 1) (pc := 10) (as := [vI (gI M 81 1), vI (Int.tmod x2 7)]) (rest := []) (lo' := [iI (gI M 81 1), iI (Int.tmod x2 7)]) dM_goesOn_10 mO_M_has lS_M_102 rfl rfl rfl rfl rfl rfl ?_
  exact H

set_option maxRecDepth 20000 in
theorem B_M_goesOn_13 {x1 x2 y0 : Int} {M : Mm} {Q : Mm → Option Mv → Prop} (hS : RefOK M) (H : ((900 ≤ x2 → Wq 1 0 0 mM_kindOf 0 [iR 80, iI x1] [] M (fun M' v => Wq 2 0 0 mM_goesOn 47 [iR 80, iI x1, iI x2, iI y0, iI 0, none] (v.toList ++ []) M' Q)) ∧ (¬ 900 ≤ x2 → ((0 ≤ 1033 + x2 ∧ 1033 + x2 < 1993) ∧ ((¬ gI M 81 (1033 + x2) = 1 → Wq 1 0 0 mM_kindOf 0 [iR 80, iI x1] [] M (fun M' v => Wq 2 0 0 mM_goesOn 47 [iR 80, iI x1, iI x2, iI y0, iI 0, none] (v.toList ++ []) M' Q)) ∧ (gI M 81 (1033 + x2) = 1 → Wq 1 0 0 mM_kindOf 0 [iR 80, iI x1] [] M (fun M' v => Wq 2 0 0 mM_goesOn 47 [iR 80, iI x1, iI x2, iI y0, iI 1, none] (v.toList ++ []) M' Q))))))) : Wq 2 0 0 mM_goesOn 13 [iR 80, iI x1, iI x2, none, none, none] [vI y0] M Q := by
  refine wq_istore_n (pc := 13) (lo' := [iR 80, iI x1, iI x2, iI y0, none, none]) dM_goesOn_13 rfl rfl rfl ?_
  refine wq_iload_n (pc := 14) dM_goesOn_14 rfl rfl ?_
  refine wq_sipush (pc := 15) dM_goesOn_15 rfl ?_
  refine wq_icmp_ge (pc := 18) (tgt := 39) dM_goesOn_18 (by decide) (fun c1 => ?_) (fun c1 => ?_)
  · have H := H.1 c1
    refine wq_iconst (pc := 39) dM_goesOn_39 rfl ?_
    refine wq_istore (pc := 40) (lo' := [iR 80, iI x1, iI x2, iI y0, iI 0, none]) dM_goesOn_40 rfl rfl ?_
    refine wq_aload_n (pc := 42) dM_goesOn_42 rfl rfl ?_
    refine wq_iload_n (pc := 43) dM_goesOn_43 rfl rfl ?_
    refine wq_callV (d' := 1) (pc := 44) (as := [vI x1]) (rest := []) (lo' := [iR 80, iI x1]) dM_goesOn_44 mO_M_kindOf lV_M_88 sh_80 (by decide) cl_11 rfl rfl rfl rfl rfl rfl ?_
    exact H
  · have H := H.2 c1
    refine wq_aload_n (pc := 21) dM_goesOn_21 rfl rfl ?_
    refine wq_getR (pc := 22) (z := 0) (b := 81) dM_goesOn_22 fO_M_9 sh_80 rfl rfl (rf_80_0 hS) ?_
    refine wq_sipush (pc := 25) dM_goesOn_25 rfl ?_
    refine wq_iload_n (pc := 28) dM_goesOn_28 rfl rfl ?_
    refine wq_iadd (pc := 29) dM_goesOn_29 ?_
    obtain ⟨s2, H⟩ := H
    refine wq_re (x := (wr (1033 + x2))) (y := (1033 + x2)) (Eq.trans (wr_eq (by omega) (by omega)) (by omega)) ?_
    refine wq_iald (pc := 30) dM_goesOn_30 sh_81 s2.1 s2.2 ?_
    refine wq_iconst (pc := 31) dM_goesOn_31 rfl ?_
    refine wq_icmp_ne (pc := 32) (tgt := 39) dM_goesOn_32 (by decide) (fun c3 => ?_) (fun c3 => ?_)
    · have H := H.1 c3
      refine wq_iconst (pc := 39) dM_goesOn_39 rfl ?_
      refine wq_istore (pc := 40) (lo' := [iR 80, iI x1, iI x2, iI y0, iI 0, none]) dM_goesOn_40 rfl rfl ?_
      refine wq_aload_n (pc := 42) dM_goesOn_42 rfl rfl ?_
      refine wq_iload_n (pc := 43) dM_goesOn_43 rfl rfl ?_
      refine wq_callV (d' := 1) (pc := 44) (as := [vI x1]) (rest := []) (lo' := [iR 80, iI x1]) dM_goesOn_44 mO_M_kindOf lV_M_88 sh_80 (by decide) cl_11 rfl rfl rfl rfl rfl rfl ?_
      exact H
    · have H := H.2 c3
      refine wq_iconst (pc := 35) dM_goesOn_35 rfl ?_
      refine wq_goto (pc := 36) (tgt := 40) dM_goesOn_36 (by decide) ?_
      refine wq_istore (pc := 40) (lo' := [iR 80, iI x1, iI x2, iI y0, iI 1, none]) dM_goesOn_40 rfl rfl ?_
      refine wq_aload_n (pc := 42) dM_goesOn_42 rfl rfl ?_
      refine wq_iload_n (pc := 43) dM_goesOn_43 rfl rfl ?_
      refine wq_callV (d' := 1) (pc := 44) (as := [vI x1]) (rest := []) (lo' := [iR 80, iI x1]) dM_goesOn_44 mO_M_kindOf lV_M_88 sh_80 (by decide) cl_11 rfl rfl rfl rfl rfl rfl ?_
      exact H

set_option maxRecDepth 20000 in
theorem B_M_goesOn_47 {x1 x2 x3 x4 y0 : Int} {M : Mm} {Q : Mm → Option Mv → Prop} (H : ((y0 = 4 → Q M (some (vI 1))) ∧ (¬ y0 = 4 → ((y0 = 5 → Q M (some (vI 1))) ∧ (¬ y0 = 5 → ((x3 = 0 → Q M (some (vI 0))) ∧ (¬ x3 = 0 → ((¬ y0 = 1 → Q M (some (vI 1))) ∧ (y0 = 1 → ((¬ x4 = 0 → Q M (some (vI 0))) ∧ (x4 = 0 → Q M (some (vI 1))))))))))))) : Wq 2 0 0 mM_goesOn 47 [iR 80, iI x1, iI x2, iI x3, iI x4, none] [vI y0] M Q := by
  refine wq_istore (pc := 47) (lo' := [iR 80, iI x1, iI x2, iI x3, iI x4, iI y0]) dM_goesOn_47 rfl rfl ?_
  refine wq_iload (pc := 49) dM_goesOn_49 rfl ?_
  refine wq_iconst (pc := 51) dM_goesOn_51 rfl ?_
  refine wq_icmp_eq (pc := 52) (tgt := 76) dM_goesOn_52 (by decide) (fun c1 => ?_) (fun c1 => ?_)
  · have H := H.1 c1
    refine wq_iconst (pc := 76) dM_goesOn_76 rfl ?_
    refine wq_goto (pc := 77) (tgt := 81) dM_goesOn_77 (by decide) ?_
    refine wq_ireturn (pc := 81) dM_goesOn_81 (Or.inr rfl) ?_
    exact H
  · have H := H.2 c1
    refine wq_iload (pc := 55) dM_goesOn_55 rfl ?_
    refine wq_iconst (pc := 57) dM_goesOn_57 rfl ?_
    refine wq_icmp_eq (pc := 58) (tgt := 76) dM_goesOn_58 (by decide) (fun c2 => ?_) (fun c2 => ?_)
    · have H := H.1 c2
      refine wq_iconst (pc := 76) dM_goesOn_76 rfl ?_
      refine wq_goto (pc := 77) (tgt := 81) dM_goesOn_77 (by decide) ?_
      refine wq_ireturn (pc := 81) dM_goesOn_81 (Or.inr rfl) ?_
      exact H
    · have H := H.2 c2
      refine wq_iload_n (pc := 61) dM_goesOn_61 rfl rfl ?_
      refine wq_if_eq (pc := 62) (tgt := 80) dM_goesOn_62 (by decide) (fun c3 => ?_) (fun c3 => ?_)
      · have H := H.1 c3
        refine wq_iconst (pc := 80) dM_goesOn_80 rfl ?_
        refine wq_ireturn (pc := 81) dM_goesOn_81 (Or.inl rfl) ?_
        exact H
      · have H := H.2 c3
        refine wq_iload (pc := 65) dM_goesOn_65 rfl ?_
        refine wq_iconst (pc := 67) dM_goesOn_67 rfl ?_
        refine wq_icmp_ne (pc := 68) (tgt := 76) dM_goesOn_68 (by decide) (fun c4 => ?_) (fun c4 => ?_)
        · have H := H.1 c4
          refine wq_iconst (pc := 76) dM_goesOn_76 rfl ?_
          refine wq_goto (pc := 77) (tgt := 81) dM_goesOn_77 (by decide) ?_
          refine wq_ireturn (pc := 81) dM_goesOn_81 (Or.inr rfl) ?_
          exact H
        · have H := H.2 c4
          refine wq_iload (pc := 71) dM_goesOn_71 rfl ?_
          refine wq_if_ne (pc := 73) (tgt := 80) dM_goesOn_73 (by decide) (fun c5 => ?_) (fun c5 => ?_)
          · have H := H.1 c5
            refine wq_iconst (pc := 80) dM_goesOn_80 rfl ?_
            refine wq_ireturn (pc := 81) dM_goesOn_81 (Or.inl rfl) ?_
            exact H
          · have H := H.2 c5
            refine wq_iconst (pc := 76) dM_goesOn_76 rfl ?_
            refine wq_goto (pc := 77) (tgt := 81) dM_goesOn_77 (by decide) ?_
            refine wq_ireturn (pc := 81) dM_goesOn_81 (Or.inr rfl) ?_
            exact H
set_option maxRecDepth 20000 in
theorem B_C_take_0 {x1 x3 : Int} {M : Mm} {Q : Mm → Option Mv → Prop} (H : Wq 1 0 0 mC_take 3 [iR 20, iL x1, none, iI x3, iI 0] [] M Q) : Wq 1 0 0 mC_take 0 [iR 20, iL x1, none, iI x3, none] [] M Q := by
  refine wq_iconst (pc := 0) dC_take_0 rfl ?_
  refine wq_istore (pc := 1) (lo' := [iR 20, iL x1, none, iI x3, iI 0]) dC_take_1 rfl rfl ?_
  exact H

set_option maxRecDepth 20000 in
theorem B_C_take_3 {x1 x3 x4 : Int} {M : Mm} {Q : Mm → Option Mv → Prop} (hS : RefOK M) (H : ((x3 ≤ x4 → Q M (some (vI (gI M 20 5)))) ∧ (¬ x3 ≤ x4 → ((-2147483648 ≤ 8 * x4 ∧ 8 * x4 < 2147483648) ∧ (0 ≤ gI M 20 5 ∧ gI M 20 5 < 60) ∧ (-2147483648 ≤ gI M 20 5 + 1 ∧ gI M 20 5 + 1 < 2147483648) ∧ (-2147483648 ≤ x4 + 1 ∧ x4 + 1 < 2147483648) ∧ Wq 1 0 0 mC_take 3 [iR 20, iL x1, none, iI x3, iI (x4 + 1)] [] (sI (sI M 21 (gI M 20 5) (bB (bB (wr (lUshr x1 (8 * x4)))))) 20 5 (gI M 20 5 + 1)) Q)))) : Wq 1 0 0 mC_take 3 [iR 20, iL x1, none, iI x3, iI x4] [] M Q := by
  refine wq_iload (pc := 3) dC_take_3 rfl ?_
  refine wq_iload_n (pc := 5) dC_take_5 rfl rfl ?_
  refine wq_icmp_ge (pc := 6) (tgt := 43) dC_take_6 (by decide) (fun c1 => ?_) (fun c1 => ?_)
  · have H := H.1 c1
    refine wq_aload_n (pc := 43) dC_take_43 rfl rfl ?_
    refine wq_getI (pc := 44) (z := 5) dC_take_44 fO_C_28 sh_20 rfl rfl ?_
    refine wq_ireturn (pc := 47) dC_take_47 trivial ?_
    exact H
  · have H := H.2 c1
    refine wq_aload_n (pc := 9) dC_take_9 rfl rfl ?_
    refine wq_getR (pc := 10) (z := 0) (b := 21) dC_take_10 fO_C_9 sh_20 rfl rfl (rf_20_0 hS) ?_
    refine wq_aload_n (pc := 13) dC_take_13 rfl rfl ?_
    refine wq_getI (pc := 14) (z := 5) dC_take_14 fO_C_28 sh_20 rfl rfl ?_
    refine wq_lload_n (pc := 17) dC_take_17 rfl rfl ?_
    refine wq_bipush (pc := 18) dC_take_18 rfl ?_
    refine wq_iload (pc := 20) dC_take_20 rfl ?_
    refine wq_imul (pc := 22) dC_take_22 ?_
    obtain ⟨s2, H⟩ := H
    refine wq_re (x := (wr (8 * x4))) (y := (8 * x4)) (Eq.trans (wr_eq (by omega) (by omega)) (by omega)) ?_
    refine wq_lushr (pc := 23) dC_take_23 ?_
    refine wq_l2i (pc := 24) dC_take_24 ?_
    refine wq_i2b (pc := 25) dC_take_25 ?_
    obtain ⟨s3, H⟩ := H
    refine wq_bast (pc := 26) dC_take_26 sh_21 s3.1 s3.2 ?_
    refine wq_aload_n (pc := 27) dC_take_27 rfl rfl ?_
    refine wq_dup (pc := 28) dC_take_28 rfl ?_
    refine wq_getI (pc := 29) (z := 5) dC_take_29 fO_C_28 sh_20 rfl rfl ?_
    refine wq_re (x := (gI (sI M 21 (gI M 20 5) (bB (bB (wr (lUshr x1 (8 * x4)))))) 20 5)) (y := (gI M 20 5)) rfl ?_
    refine wq_iconst (pc := 32) dC_take_32 rfl ?_
    refine wq_iadd (pc := 33) dC_take_33 ?_
    obtain ⟨s4, H⟩ := H
    refine wq_re (x := (wr (gI M 20 5 + 1))) (y := (gI M 20 5 + 1)) (Eq.trans (wr_eq (by omega) (by omega)) (by omega)) ?_
    refine wq_putI (pc := 34) (z := 5) dC_take_34 fW_C_28 sh_20 rfl rfl ?_
    obtain ⟨s5, H⟩ := H
    refine wq_iinc (pc := 37) (lo' := [iR 20, iL x1, none, iI x3, iI (x4 + 1)]) dC_take_37 rfl rfl (by rw [show wr (x4 + 1) = x4 + 1 from (Eq.trans (wr_eq (by omega) (by omega)) (by omega))]; rfl) ?_
    refine wq_goto (pc := 40) (tgt := 3) dC_take_40 (by decide) ?_
    exact H
set_option maxRecDepth 20000 in
theorem B_Y_byWeek_0 {x1 x2 : Int} {M : Mm} {Q : Mm → Option Mv → Prop} (H : ((-2147483648 ≤ x2 - 1 ∧ x2 - 1 < 2147483648) ∧ ¬ gI M 2 4 = 0 ∧ (-2147483648 ≤ Int.tdiv (x2 - 1) (gI M 2 4) ∧ Int.tdiv (x2 - 1) (gI M 2 4) < 2147483648) ∧ (-2147483648 ≤ x2 - Int.tdiv (x2 - 1) (gI M 2 4) * gI M 2 4 ∧ x2 - Int.tdiv (x2 - 1) (gI M 2 4) * gI M 2 4 < 2147483648) ∧ (-2147483648 ≤ x1 + 7 * Int.tdiv (x2 - 1) (gI M 2 4) ∧ x1 + 7 * Int.tdiv (x2 - 1) (gI M 2 4) < 2147483648) ∧ Wq 1 0 0 mY_byWeek 30 [iR 2, iI x1, iI x2, iI (Int.tdiv (x2 - 1) (gI M 2 4)), iI (x2 - Int.tdiv (x2 - 1) (gI M 2 4) * gI M 2 4), iI (x1 + 7 * Int.tdiv (x2 - 1) (gI M 2 4)), iI 0] [] M Q)) : Wq 1 0 0 mY_byWeek 0 [iR 2, iI x1, iI x2, none, none, none, none] [] M Q := by
  refine wq_iload_n (pc := 0) dY_byWeek_0 rfl rfl ?_
  refine wq_iconst (pc := 1) dY_byWeek_1 rfl ?_
  refine wq_isub (pc := 2) dY_byWeek_2 ?_
  refine wq_aload_n (pc := 3) dY_byWeek_3 rfl rfl ?_
  refine wq_getI (pc := 4) (z := 4) dY_byWeek_4 fO_Y_32 sh_2 rfl rfl ?_
  obtain ⟨s1, H⟩ := H
  refine wq_re2 (x := (wr (x2 - 1))) (y := (x2 - 1)) (Eq.trans (wr_eq (by omega) (by omega)) (by omega)) ?_
  obtain ⟨s2, H⟩ := H
  refine wq_idiv (pc := 7) dY_byWeek_7 s2 ?_
  obtain ⟨s3, H⟩ := H
  refine wq_re (x := (wr (Int.tdiv (x2 - 1) (gI M 2 4)))) (y := (Int.tdiv (x2 - 1) (gI M 2 4))) (Eq.trans (wr_eq (by omega) (by omega)) (by omega)) ?_
  refine wq_istore_n (pc := 8) (lo' := [iR 2, iI x1, iI x2, iI (Int.tdiv (x2 - 1) (gI M 2 4)), none, none, none]) dY_byWeek_8 rfl rfl rfl ?_
  refine wq_iload_n (pc := 9) dY_byWeek_9 rfl rfl ?_
  refine wq_iload_n (pc := 10) dY_byWeek_10 rfl rfl ?_
  refine wq_aload_n (pc := 11) dY_byWeek_11 rfl rfl ?_
  refine wq_getI (pc := 12) (z := 4) dY_byWeek_12 fO_Y_32 sh_2 rfl rfl ?_
  refine wq_imul (pc := 15) dY_byWeek_15 ?_
  refine wq_isub (pc := 16) dY_byWeek_16 ?_
  obtain ⟨s4, H⟩ := H
  refine wq_re (x := (wr (x2 - wr (Int.tdiv (x2 - 1) (gI M 2 4) * gI M 2 4)))) (y := (x2 - Int.tdiv (x2 - 1) (gI M 2 4) * gI M 2 4)) (by (try simp only [wr_al, wr_ar, wr_sl, wr_sr, wr_ml, wr_mr, wr_nn, wr_ww]); exact Eq.trans (wr_eq (by omega) (by omega)) (by omega)) ?_
  refine wq_istore (pc := 17) (lo' := [iR 2, iI x1, iI x2, iI (Int.tdiv (x2 - 1) (gI M 2 4)), iI (x2 - Int.tdiv (x2 - 1) (gI M 2 4) * gI M 2 4), none, none]) dY_byWeek_17 rfl rfl ?_
  refine wq_iload_n (pc := 19) dY_byWeek_19 rfl rfl ?_
  refine wq_bipush (pc := 20) dY_byWeek_20 rfl ?_
  refine wq_iload_n (pc := 22) dY_byWeek_22 rfl rfl ?_
  refine wq_imul (pc := 23) dY_byWeek_23 ?_
  refine wq_iadd (pc := 24) dY_byWeek_24 ?_
  obtain ⟨s5, H⟩ := H
  refine wq_re (x := (wr (x1 + wr (7 * Int.tdiv (x2 - 1) (gI M 2 4))))) (y := (x1 + 7 * Int.tdiv (x2 - 1) (gI M 2 4))) (by (try simp only [wr_al, wr_ar, wr_sl, wr_sr, wr_ml, wr_mr, wr_nn, wr_ww]); exact Eq.trans (wr_eq (by omega) (by omega)) (by omega)) ?_
  refine wq_istore (pc := 25) (lo' := [iR 2, iI x1, iI x2, iI (Int.tdiv (x2 - 1) (gI M 2 4)), iI (x2 - Int.tdiv (x2 - 1) (gI M 2 4) * gI M 2 4), iI (x1 + 7 * Int.tdiv (x2 - 1) (gI M 2 4)), none]) dY_byWeek_25 rfl rfl ?_
  refine wq_iconst (pc := 27) dY_byWeek_27 rfl ?_
  refine wq_istore (pc := 28) (lo' := [iR 2, iI x1, iI x2, iI (Int.tdiv (x2 - 1) (gI M 2 4)), iI (x2 - Int.tdiv (x2 - 1) (gI M 2 4) * gI M 2 4), iI (x1 + 7 * Int.tdiv (x2 - 1) (gI M 2 4)), iI 0]) dY_byWeek_28 rfl rfl ?_
  exact H

set_option maxRecDepth 20000 in
theorem B_Y_byWeek_30 {x1 x2 x3 x4 x5 x6 : Int} {M : Mm} {Q : Mm → Option Mv → Prop} (H : ((7 ≤ x6 → Q M (some (vI x5))) ∧ (¬ 7 ≤ x6 → ((x4 ≤ 0 → Q M (some (vI x5))) ∧ (¬ x4 ≤ 0 → ((-2147483648 ≤ Int.tmod x5 7 ∧ Int.tmod x5 7 < 2147483648) ∧ (-2147483648 ≤ x4 - bAnd (bShr (gI M 2 3) (Int.tmod x5 7)) 1 ∧ x4 - bAnd (bShr (gI M 2 3) (Int.tmod x5 7)) 1 < 2147483648) ∧ (-2147483648 ≤ x5 + 1 ∧ x5 + 1 < 2147483648) ∧ (-2147483648 ≤ x6 + 1 ∧ x6 + 1 < 2147483648) ∧ Wq 1 0 0 mY_byWeek 30 [iR 2, iI x1, iI x2, iI x3, iI (x4 - bAnd (bShr (gI M 2 3) (Int.tmod x5 7)) 1), iI (x5 + 1), iI (x6 + 1)] [] M Q)))))) : Wq 1 0 0 mY_byWeek 30 [iR 2, iI x1, iI x2, iI x3, iI x4, iI x5, iI x6] [] M Q := by
  refine wq_iload (pc := 30) dY_byWeek_30 rfl ?_
  refine wq_bipush (pc := 32) dY_byWeek_32 rfl ?_
  refine wq_icmp_ge (pc := 34) (tgt := 68) dY_byWeek_34 (by decide) (fun c1 => ?_) (fun c1 => ?_)
  · have H := H.1 c1
    refine wq_iload (pc := 68) dY_byWeek_68 rfl ?_
    refine wq_ireturn (pc := 70) dY_byWeek_70 trivial ?_
    exact H
  · have H := H.2 c1
    refine wq_iload (pc := 37) dY_byWeek_37 rfl ?_
    refine wq_if_le (pc := 39) (tgt := 68) dY_byWeek_39 (by decide) (fun c2 => ?_) (fun c2 => ?_)
    · have H := H.1 c2
      refine wq_iload (pc := 68) dY_byWeek_68 rfl ?_
      refine wq_ireturn (pc := 70) dY_byWeek_70 trivial ?_
      exact H
    · have H := H.2 c2
      refine wq_iload (pc := 42) dY_byWeek_42 rfl ?_
      refine wq_aload_n (pc := 44) dY_byWeek_44 rfl rfl ?_
      refine wq_getI (pc := 45) (z := 3) dY_byWeek_45 fO_Y_23 sh_2 rfl rfl ?_
      refine wq_iload (pc := 48) dY_byWeek_48 rfl ?_
      refine wq_bipush (pc := 50) dY_byWeek_50 rfl ?_
      refine wq_irem (pc := 52) dY_byWeek_52 (by decide) ?_
      obtain ⟨s3, H⟩ := H
      refine wq_re (x := (wr (Int.tmod x5 7))) (y := (Int.tmod x5 7)) (Eq.trans (wr_eq (by omega) (by omega)) (by omega)) ?_
      refine wq_ishr (pc := 53) dY_byWeek_53 ?_
      refine wq_iconst (pc := 54) dY_byWeek_54 rfl ?_
      refine wq_iand (pc := 55) dY_byWeek_55 ?_
      refine wq_isub (pc := 56) dY_byWeek_56 ?_
      obtain ⟨s4, H⟩ := H
      refine wq_re (x := (wr (x4 - bAnd (bShr (gI M 2 3) (Int.tmod x5 7)) 1))) (y := (x4 - bAnd (bShr (gI M 2 3) (Int.tmod x5 7)) 1)) (Eq.trans (wr_eq (by omega) (by omega)) (by omega)) ?_
      refine wq_istore (pc := 57) (lo' := [iR 2, iI x1, iI x2, iI x3, iI (x4 - bAnd (bShr (gI M 2 3) (Int.tmod x5 7)) 1), iI x5, iI x6]) dY_byWeek_57 rfl rfl ?_
      obtain ⟨s5, H⟩ := H
      refine wq_iinc (pc := 59) (lo' := [iR 2, iI x1, iI x2, iI x3, iI (x4 - bAnd (bShr (gI M 2 3) (Int.tmod x5 7)) 1), iI (x5 + 1), iI x6]) dY_byWeek_59 rfl rfl (by rw [show wr (x5 + 1) = x5 + 1 from (Eq.trans (wr_eq (by omega) (by omega)) (by omega))]; rfl) ?_
      obtain ⟨s6, H⟩ := H
      refine wq_iinc (pc := 62) (lo' := [iR 2, iI x1, iI x2, iI x3, iI (x4 - bAnd (bShr (gI M 2 3) (Int.tmod x5 7)) 1), iI (x5 + 1), iI (x6 + 1)]) dY_byWeek_62 rfl rfl (by rw [show wr (x6 + 1) = x6 + 1 from (Eq.trans (wr_eq (by omega) (by omega)) (by omega))]; rfl) ?_
      refine wq_goto (pc := 65) (tgt := 30) dY_byWeek_65 (by decide) ?_
      exact H
set_option maxRecDepth 20000 in
theorem B_W_add_0 {x1 x2 : Int} {M : Mm} {Q : Mm → Option Mv → Prop} (hS : RefOK M) (H : ((0 ≤ gI M 5 6 ∧ gI M 5 6 < 16) ∧ (-2147483648 ≤ gI M 5 6 + 1 ∧ gI M 5 6 + 1 < 2147483648) ∧ (-2147483648 ≤ gI M 5 6 + 1 - 1 ∧ gI M 5 6 + 1 - 1 < 2147483648) ∧ Q (sI (sI (sI (sI (sI (sI M 6 (gI M 5 6) x1) 7 (gI M 5 6) x2) 8 (gI M 5 6) x2) 9 (gI M 5 6) 0) 11 (gI M 5 6) (gI M 5 6)) 5 6 (gI M 5 6 + 1)) (some (vI (gI M 5 6 + 1 - 1))))) : Wq 1 0 0 mW_add 0 [iR 5, iI x1, iI x2] [] M Q := by
  refine wq_aload_n (pc := 0) dW_add_0 rfl rfl ?_
  refine wq_getR (pc := 1) (z := 0) (b := 6) dW_add_1 fO_W_9 sh_5 rfl rfl (rf_5_0 hS) ?_
  refine wq_aload_n (pc := 4) dW_add_4 rfl rfl ?_
  refine wq_getI (pc := 5) (z := 6) dW_add_5 fO_W_30 sh_5 rfl rfl ?_
  refine wq_iload_n (pc := 8) dW_add_8 rfl rfl ?_
  obtain ⟨s1, H⟩ := H
  refine wq_iast (pc := 9) dW_add_9 sh_6 (by decide) s1.1 s1.2 ?_
  refine wq_aload_n (pc := 10) dW_add_10 rfl rfl ?_
  refine wq_getR (pc := 11) (z := 1) (b := 7) dW_add_11 fO_W_15 sh_5 rfl rfl (rf_5_1 hS) ?_
  refine wq_aload_n (pc := 14) dW_add_14 rfl rfl ?_
  refine wq_getI (pc := 15) (z := 6) dW_add_15 fO_W_30 sh_5 rfl rfl ?_
  refine wq_re (x := (gI (sI M 6 (gI M 5 6) x1) 5 6)) (y := (gI M 5 6)) rfl ?_
  refine wq_iload_n (pc := 18) dW_add_18 rfl rfl ?_
  refine wq_iast (pc := 19) dW_add_19 sh_7 (by decide) s1.1 s1.2 ?_
  refine wq_aload_n (pc := 20) dW_add_20 rfl rfl ?_
  refine wq_getR (pc := 21) (z := 2) (b := 8) dW_add_21 fO_W_18 sh_5 rfl rfl (rf_5_2 hS) ?_
  refine wq_aload_n (pc := 24) dW_add_24 rfl rfl ?_
  refine wq_getI (pc := 25) (z := 6) dW_add_25 fO_W_30 sh_5 rfl rfl ?_
  refine wq_re (x := (gI (sI (sI M 6 (gI M 5 6) x1) 7 (gI M 5 6) x2) 5 6)) (y := (gI M 5 6)) rfl ?_
  refine wq_iload_n (pc := 28) dW_add_28 rfl rfl ?_
  refine wq_iast (pc := 29) dW_add_29 sh_8 (by decide) s1.1 s1.2 ?_
  refine wq_aload_n (pc := 30) dW_add_30 rfl rfl ?_
  refine wq_getR (pc := 31) (z := 3) (b := 9) dW_add_31 fO_W_21 sh_5 rfl rfl (rf_5_3 hS) ?_
  refine wq_aload_n (pc := 34) dW_add_34 rfl rfl ?_
  refine wq_getI (pc := 35) (z := 6) dW_add_35 fO_W_30 sh_5 rfl rfl ?_
  refine wq_re (x := (gI (sI (sI (sI M 6 (gI M 5 6) x1) 7 (gI M 5 6) x2) 8 (gI M 5 6) x2) 5 6)) (y := (gI M 5 6)) rfl ?_
  refine wq_iconst (pc := 38) dW_add_38 rfl ?_
  refine wq_iast (pc := 39) dW_add_39 sh_9 (by decide) s1.1 s1.2 ?_
  refine wq_aload_n (pc := 40) dW_add_40 rfl rfl ?_
  refine wq_getR (pc := 41) (z := 5) (b := 11) dW_add_41 fO_W_27 sh_5 rfl rfl (rf_5_5 hS) ?_
  refine wq_aload_n (pc := 44) dW_add_44 rfl rfl ?_
  refine wq_getI (pc := 45) (z := 6) dW_add_45 fO_W_30 sh_5 rfl rfl ?_
  refine wq_re (x := (gI (sI (sI (sI (sI M 6 (gI M 5 6) x1) 7 (gI M 5 6) x2) 8 (gI M 5 6) x2) 9 (gI M 5 6) 0) 5 6)) (y := (gI M 5 6)) rfl ?_
  refine wq_aload_n (pc := 48) dW_add_48 rfl rfl ?_
  refine wq_getI (pc := 49) (z := 6) dW_add_49 fO_W_30 sh_5 rfl rfl ?_
  refine wq_re (x := (gI (sI (sI (sI (sI M 6 (gI M 5 6) x1) 7 (gI M 5 6) x2) 8 (gI M 5 6) x2) 9 (gI M 5 6) 0) 5 6)) (y := (gI M 5 6)) rfl ?_
  refine wq_iast (pc := 52) dW_add_52 sh_11 (by decide) s1.1 s1.2 ?_
  refine wq_aload_n (pc := 53) dW_add_53 rfl rfl ?_
  refine wq_dup (pc := 54) dW_add_54 rfl ?_
  refine wq_getI (pc := 55) (z := 6) dW_add_55 fO_W_30 sh_5 rfl rfl ?_
  refine wq_re (x := (gI (sI (sI (sI (sI (sI M 6 (gI M 5 6) x1) 7 (gI M 5 6) x2) 8 (gI M 5 6) x2) 9 (gI M 5 6) 0) 11 (gI M 5 6) (gI M 5 6)) 5 6)) (y := (gI M 5 6)) rfl ?_
  refine wq_iconst (pc := 58) dW_add_58 rfl ?_
  refine wq_iadd (pc := 59) dW_add_59 ?_
  obtain ⟨s2, H⟩ := H
  refine wq_re (x := (wr (gI M 5 6 + 1))) (y := (gI M 5 6 + 1)) (Eq.trans (wr_eq (by omega) (by omega)) (by omega)) ?_
  refine wq_putI (pc := 60) (z := 6) dW_add_60 fW_W_30 sh_5 rfl rfl ?_
  refine wq_aload_n (pc := 63) dW_add_63 rfl rfl ?_
  refine wq_getI (pc := 64) (z := 6) dW_add_64 fO_W_30 sh_5 rfl rfl ?_
  refine wq_re (x := (gI (sI (sI (sI (sI (sI (sI M 6 (gI M 5 6) x1) 7 (gI M 5 6) x2) 8 (gI M 5 6) x2) 9 (gI M 5 6) 0) 11 (gI M 5 6) (gI M 5 6)) 5 6 (gI M 5 6 + 1)) 5 6)) (y := (gI M 5 6 + 1)) rfl ?_
  refine wq_iconst (pc := 67) dW_add_67 rfl ?_
  refine wq_isub (pc := 68) dW_add_68 ?_
  obtain ⟨s3, H⟩ := H
  refine wq_re (x := (wr (gI M 5 6 + 1 - 1))) (y := (gI M 5 6 + 1 - 1)) (Eq.trans (wr_eq (by omega) (by omega)) (by omega)) ?_
  refine wq_ireturn (pc := 69) dW_add_69 trivial ?_
  exact H
set_option maxRecDepth 20000 in
theorem B_E_add_0 {x1 x2 x3 x4 : Int} {M : Mm} {Q : Mm → Option Mv → Prop} (hS : RefOK M) (H : ((-2147483648 ≤ Int.tdiv x1 10 ∧ Int.tdiv x1 10 < 2147483648) ∧ (0 ≤ gI M 12 7 ∧ gI M 12 7 < 20) ∧ (-2147483648 ≤ Int.tmod x1 10 ∧ Int.tmod x1 10 < 2147483648) ∧ (-2147483648 ≤ gI M 12 7 + 1 ∧ gI M 12 7 + 1 < 2147483648) ∧ (-2147483648 ≤ gI M 12 7 + 1 - 1 ∧ gI M 12 7 + 1 - 1 < 2147483648) ∧ Q (sI (sI (sI (sI (sI (sI (sI (sI M 13 (gI M 12 7) (Int.tdiv x1 10)) 14 (gI M 12 7) (Int.tmod x1 10)) 15 (gI M 12 7) x2) 16 (gI M 12 7) x3) 17 (gI M 12 7) (-1)) 18 (gI M 12 7) x4) 19 (gI M 12 7) (-1)) 12 7 (gI M 12 7 + 1)) (some (vI (gI M 12 7 + 1 - 1))))) : Wq 1 0 0 mE_add 0 [iR 12, iI x1, iI x2, iI x3, iI x4] [] M Q := by
  refine wq_aload_n (pc := 0) dE_add_0 rfl rfl ?_
  refine wq_getR (pc := 1) (z := 0) (b := 13) dE_add_1 fO_E_9 sh_12 rfl rfl (rf_12_0 hS) ?_
  refine wq_aload_n (pc := 4) dE_add_4 rfl rfl ?_
  refine wq_getI (pc := 5) (z := 7) dE_add_5 fO_E_33 sh_12 rfl rfl ?_
  refine wq_iload_n (pc := 8) dE_add_8 rfl rfl ?_
  refine wq_bipush (pc := 9) dE_add_9 rfl ?_
  refine wq_idiv (pc := 11) dE_add_11 (by decide) ?_
  obtain ⟨s1, H⟩ := H
  refine wq_re (x := (wr (Int.tdiv x1 10))) (y := (Int.tdiv x1 10)) (Eq.trans (wr_eq (by omega) (by omega)) (by omega)) ?_
  obtain ⟨s2, H⟩ := H
  refine wq_iast (pc := 12) dE_add_12 sh_13 (by decide) s2.1 s2.2 ?_
  refine wq_aload_n (pc := 13) dE_add_13 rfl rfl ?_
  refine wq_getR (pc := 14) (z := 1) (b := 14) dE_add_14 fO_E_15 sh_12 rfl rfl (rf_12_1 hS) ?_
  refine wq_aload_n (pc := 17) dE_add_17 rfl rfl ?_
  refine wq_getI (pc := 18) (z := 7) dE_add_18 fO_E_33 sh_12 rfl rfl ?_
  refine wq_re (x := (gI (sI M 13 (gI M 12 7) (Int.tdiv x1 10)) 12 7)) (y := (gI M 12 7)) rfl ?_
  refine wq_iload_n (pc := 21) dE_add_21 rfl rfl ?_
  refine wq_bipush (pc := 22) dE_add_22 rfl ?_
  refine wq_irem (pc := 24) dE_add_24 (by decide) ?_
  obtain ⟨s3, H⟩ := H
  refine wq_re (x := (wr (Int.tmod x1 10))) (y := (Int.tmod x1 10)) (Eq.trans (wr_eq (by omega) (by omega)) (by omega)) ?_
  refine wq_iast (pc := 25) dE_add_25 sh_14 (by decide) s2.1 s2.2 ?_
  refine wq_aload_n (pc := 26) dE_add_26 rfl rfl ?_
  refine wq_getR (pc := 27) (z := 2) (b := 15) dE_add_27 fO_E_18 sh_12 rfl rfl (rf_12_2 hS) ?_
  refine wq_aload_n (pc := 30) dE_add_30 rfl rfl ?_
  refine wq_getI (pc := 31) (z := 7) dE_add_31 fO_E_33 sh_12 rfl rfl ?_
  refine wq_re (x := (gI (sI (sI M 13 (gI M 12 7) (Int.tdiv x1 10)) 14 (gI M 12 7) (Int.tmod x1 10)) 12 7)) (y := (gI M 12 7)) rfl ?_
  refine wq_iload_n (pc := 34) dE_add_34 rfl rfl ?_
  refine wq_iast (pc := 35) dE_add_35 sh_15 (by decide) s2.1 s2.2 ?_
  refine wq_aload_n (pc := 36) dE_add_36 rfl rfl ?_
  refine wq_getR (pc := 37) (z := 3) (b := 16) dE_add_37 fO_E_21 sh_12 rfl rfl (rf_12_3 hS) ?_
  refine wq_aload_n (pc := 40) dE_add_40 rfl rfl ?_
  refine wq_getI (pc := 41) (z := 7) dE_add_41 fO_E_33 sh_12 rfl rfl ?_
  refine wq_re (x := (gI (sI (sI (sI M 13 (gI M 12 7) (Int.tdiv x1 10)) 14 (gI M 12 7) (Int.tmod x1 10)) 15 (gI M 12 7) x2) 12 7)) (y := (gI M 12 7)) rfl ?_
  refine wq_iload_n (pc := 44) dE_add_44 rfl rfl ?_
  refine wq_iast (pc := 45) dE_add_45 sh_16 (by decide) s2.1 s2.2 ?_
  refine wq_aload_n (pc := 46) dE_add_46 rfl rfl ?_
  refine wq_getR (pc := 47) (z := 4) (b := 17) dE_add_47 fO_E_24 sh_12 rfl rfl (rf_12_4 hS) ?_
  refine wq_aload_n (pc := 50) dE_add_50 rfl rfl ?_
  refine wq_getI (pc := 51) (z := 7) dE_add_51 fO_E_33 sh_12 rfl rfl ?_
  refine wq_re (x := (gI (sI (sI (sI (sI M 13 (gI M 12 7) (Int.tdiv x1 10)) 14 (gI M 12 7) (Int.tmod x1 10)) 15 (gI M 12 7) x2) 16 (gI M 12 7) x3) 12 7)) (y := (gI M 12 7)) rfl ?_
  refine wq_iconst (pc := 54) dE_add_54 rfl ?_
  refine wq_iast (pc := 55) dE_add_55 sh_17 (by decide) s2.1 s2.2 ?_
  refine wq_aload_n (pc := 56) dE_add_56 rfl rfl ?_
  refine wq_getR (pc := 57) (z := 5) (b := 18) dE_add_57 fO_E_27 sh_12 rfl rfl (rf_12_5 hS) ?_
  refine wq_aload_n (pc := 60) dE_add_60 rfl rfl ?_
  refine wq_getI (pc := 61) (z := 7) dE_add_61 fO_E_33 sh_12 rfl rfl ?_
  refine wq_re (x := (gI (sI (sI (sI (sI (sI M 13 (gI M 12 7) (Int.tdiv x1 10)) 14 (gI M 12 7) (Int.tmod x1 10)) 15 (gI M 12 7) x2) 16 (gI M 12 7) x3) 17 (gI M 12 7) (-1)) 12 7)) (y := (gI M 12 7)) rfl ?_
  refine wq_iload (pc := 64) dE_add_64 rfl ?_
  refine wq_iast (pc := 66) dE_add_66 sh_18 (by decide) s2.1 s2.2 ?_
  refine wq_aload_n (pc := 67) dE_add_67 rfl rfl ?_
  refine wq_getR (pc := 68) (z := 6) (b := 19) dE_add_68 fO_E_30 sh_12 rfl rfl (rf_12_6 hS) ?_
  refine wq_aload_n (pc := 71) dE_add_71 rfl rfl ?_
  refine wq_getI (pc := 72) (z := 7) dE_add_72 fO_E_33 sh_12 rfl rfl ?_
  refine wq_re (x := (gI (sI (sI (sI (sI (sI (sI M 13 (gI M 12 7) (Int.tdiv x1 10)) 14 (gI M 12 7) (Int.tmod x1 10)) 15 (gI M 12 7) x2) 16 (gI M 12 7) x3) 17 (gI M 12 7) (-1)) 18 (gI M 12 7) x4) 12 7)) (y := (gI M 12 7)) rfl ?_
  refine wq_iconst (pc := 75) dE_add_75 rfl ?_
  refine wq_iast (pc := 76) dE_add_76 sh_19 (by decide) s2.1 s2.2 ?_
  refine wq_aload_n (pc := 77) dE_add_77 rfl rfl ?_
  refine wq_dup (pc := 78) dE_add_78 rfl ?_
  refine wq_getI (pc := 79) (z := 7) dE_add_79 fO_E_33 sh_12 rfl rfl ?_
  refine wq_re (x := (gI (sI (sI (sI (sI (sI (sI (sI M 13 (gI M 12 7) (Int.tdiv x1 10)) 14 (gI M 12 7) (Int.tmod x1 10)) 15 (gI M 12 7) x2) 16 (gI M 12 7) x3) 17 (gI M 12 7) (-1)) 18 (gI M 12 7) x4) 19 (gI M 12 7) (-1)) 12 7)) (y := (gI M 12 7)) rfl ?_
  refine wq_iconst (pc := 82) dE_add_82 rfl ?_
  refine wq_iadd (pc := 83) dE_add_83 ?_
  obtain ⟨s4, H⟩ := H
  refine wq_re (x := (wr (gI M 12 7 + 1))) (y := (gI M 12 7 + 1)) (Eq.trans (wr_eq (by omega) (by omega)) (by omega)) ?_
  refine wq_putI (pc := 84) (z := 7) dE_add_84 fW_E_33 sh_12 rfl rfl ?_
  refine wq_aload_n (pc := 87) dE_add_87 rfl rfl ?_
  refine wq_getI (pc := 88) (z := 7) dE_add_88 fO_E_33 sh_12 rfl rfl ?_
  refine wq_re (x := (gI (sI (sI (sI (sI (sI (sI (sI (sI M 13 (gI M 12 7) (Int.tdiv x1 10)) 14 (gI M 12 7) (Int.tmod x1 10)) 15 (gI M 12 7) x2) 16 (gI M 12 7) x3) 17 (gI M 12 7) (-1)) 18 (gI M 12 7) x4) 19 (gI M 12 7) (-1)) 12 7 (gI M 12 7 + 1)) 12 7)) (y := (gI M 12 7 + 1)) rfl ?_
  refine wq_iconst (pc := 91) dE_add_91 rfl ?_
  refine wq_isub (pc := 92) dE_add_92 ?_
  obtain ⟨s5, H⟩ := H
  refine wq_re (x := (wr (gI M 12 7 + 1 - 1))) (y := (gI M 12 7 + 1 - 1)) (Eq.trans (wr_eq (by omega) (by omega)) (by omega)) ?_
  refine wq_ireturn (pc := 93) dE_add_93 trivial ?_
  exact H
set_option maxRecDepth 20000 in
theorem B_Y_firstWith_0 {x1 x2 : Int} {M : Mm} {Q : Mm → Option Mv → Prop} (H : ((-2147483648 ≤ x2 + 1 ∧ x2 + 1 < 2147483648) ∧ Wq 1 0 0 mY_firstWith 12 [iR 2, iI x1, iI x2, iI (x2 + 1), iI 900, iI 0, none] [] M Q)) : Wq 1 0 0 mY_firstWith 0 [iR 2, iI x1, iI x2, none, none, none, none] [] M Q := by
  refine wq_iload_n (pc := 0) dY_firstWith_0 rfl rfl ?_
  refine wq_iconst (pc := 1) dY_firstWith_1 rfl ?_
  refine wq_iadd (pc := 2) dY_firstWith_2 ?_
  obtain ⟨s1, H⟩ := H
  refine wq_re (x := (wr (x2 + 1))) (y := (x2 + 1)) (Eq.trans (wr_eq (by omega) (by omega)) (by omega)) ?_
  refine wq_istore_n (pc := 3) (lo' := [iR 2, iI x1, iI x2, iI (x2 + 1), none, none, none]) dY_firstWith_3 rfl rfl rfl ?_
  refine wq_sipush (pc := 4) dY_firstWith_4 rfl ?_
  refine wq_istore (pc := 7) (lo' := [iR 2, iI x1, iI x2, iI (x2 + 1), iI 900, none, none]) dY_firstWith_7 rfl rfl ?_
  refine wq_iconst (pc := 9) dY_firstWith_9 rfl ?_
  refine wq_istore (pc := 10) (lo' := [iR 2, iI x1, iI x2, iI (x2 + 1), iI 900, iI 0, none]) dY_firstWith_10 rfl rfl ?_
  exact H

set_option maxRecDepth 20000 in
theorem B_Y_firstWith_12 {x1 x2 x3 x4 x5 : Int} {M : Mm} {Q : Mm → Option Mv → Prop} (hS : RefOK M) (H : ((900 ≤ x5 → Q M (some (vI x4))) ∧ (¬ 900 ≤ x5 → ((x4 ≤ x3 → Q M (some (vI x4))) ∧ (¬ x4 ≤ x3 → ((-2147483648 ≤ x3 + x4 ∧ x3 + x4 < 2147483648) ∧ (-2147483648 ≤ Int.tdiv (x3 + x4) 2 ∧ Int.tdiv (x3 + x4) 2 < 2147483648) ∧ (0 ≤ Int.tdiv (x3 + x4) 2 ∧ Int.tdiv (x3 + x4) 2 < 901) ∧ ((gI M 4 (Int.tdiv (x3 + x4) 2) < x1 → ((-2147483648 ≤ Int.tdiv (x3 + x4) 2 + 1 ∧ Int.tdiv (x3 + x4) 2 + 1 < 2147483648) ∧ (-2147483648 ≤ x5 + 1 ∧ x5 + 1 < 2147483648) ∧ Wq 1 0 0 mY_firstWith 12 [iR 2, iI x1, iI x2, iI (Int.tdiv (x3 + x4) 2 + 1), iI x4, iI (x5 + 1), none] [] M Q)) ∧ (¬ gI M 4 (Int.tdiv (x3 + x4) 2) < x1 → ((-2147483648 ≤ x5 + 1 ∧ x5 + 1 < 2147483648) ∧ Wq 1 0 0 mY_firstWith 12 [iR 2, iI x1, iI x2, iI x3, iI (Int.tdiv (x3 + x4) 2), iI (x5 + 1), none] [] M Q))))))))) : Wq 1 0 0 mY_firstWith 12 [iR 2, iI x1, iI x2, iI x3, iI x4, iI x5, none] [] M Q := by
  refine wq_iload (pc := 12) dY_firstWith_12 rfl ?_
  refine wq_sipush (pc := 14) dY_firstWith_14 rfl ?_
  refine wq_icmp_ge (pc := 17) (tgt := 63) dY_firstWith_17 (by decide) (fun c1 => ?_) (fun c1 => ?_)
  · have H := H.1 c1
    refine wq_iload (pc := 63) dY_firstWith_63 rfl ?_
    refine wq_ireturn (pc := 65) dY_firstWith_65 trivial ?_
    exact H
  · have H := H.2 c1
    refine wq_iload_n (pc := 20) dY_firstWith_20 rfl rfl ?_
    refine wq_iload (pc := 21) dY_firstWith_21 rfl ?_
    refine wq_icmp_ge (pc := 23) (tgt := 63) dY_firstWith_23 (by decide) (fun c2 => ?_) (fun c2 => ?_)
    · have H := H.1 c2
      refine wq_iload (pc := 63) dY_firstWith_63 rfl ?_
      refine wq_ireturn (pc := 65) dY_firstWith_65 trivial ?_
      exact H
    · have H := H.2 c2
      refine wq_iload_n (pc := 26) dY_firstWith_26 rfl rfl ?_
      refine wq_iload (pc := 27) dY_firstWith_27 rfl ?_
      refine wq_iadd (pc := 29) dY_firstWith_29 ?_
      refine wq_iconst (pc := 30) dY_firstWith_30 rfl ?_
      obtain ⟨s3, H⟩ := H
      refine wq_re2 (x := (wr (x3 + x4))) (y := (x3 + x4)) (Eq.trans (wr_eq (by omega) (by omega)) (by omega)) ?_
      refine wq_idiv (pc := 31) dY_firstWith_31 (by decide) ?_
      obtain ⟨s4, H⟩ := H
      refine wq_re (x := (wr (Int.tdiv (x3 + x4) 2))) (y := (Int.tdiv (x3 + x4) 2)) (Eq.trans (wr_eq (by omega) (by omega)) (by omega)) ?_
      refine wq_istore (pc := 32) (lo' := [iR 2, iI x1, iI x2, iI x3, iI x4, iI x5, iI (Int.tdiv (x3 + x4) 2)]) dY_firstWith_32 rfl rfl ?_
      refine wq_aload_n (pc := 34) dY_firstWith_34 rfl rfl ?_
      refine wq_getR (pc := 35) (z := 1) (b := 4) dY_firstWith_35 fO_Y_15 sh_2 rfl rfl (rf_2_1 hS) ?_
      refine wq_iload (pc := 38) dY_firstWith_38 rfl ?_
      obtain ⟨s5, H⟩ := H
      refine wq_iald (pc := 40) dY_firstWith_40 sh_4 s5.1 s5.2 ?_
      refine wq_iload_n (pc := 41) dY_firstWith_41 rfl rfl ?_
      refine wq_icmp_lt (pc := 42) (tgt := 52) dY_firstWith_42 (by decide) (fun c6 => ?_) (fun c6 => ?_)
      · have H := H.1 c6
        refine wq_iload (pc := 52) dY_firstWith_52 rfl ?_
        refine wq_iconst (pc := 54) dY_firstWith_54 rfl ?_
        refine wq_iadd (pc := 55) dY_firstWith_55 ?_
        obtain ⟨s7, H⟩ := H
        refine wq_re (x := (wr (Int.tdiv (x3 + x4) 2 + 1))) (y := (Int.tdiv (x3 + x4) 2 + 1)) (Eq.trans (wr_eq (by omega) (by omega)) (by omega)) ?_
        refine wq_istore_n (pc := 56) (lo' := [iR 2, iI x1, iI x2, iI (Int.tdiv (x3 + x4) 2 + 1), iI x4, iI x5, iI (Int.tdiv (x3 + x4) 2)]) dY_firstWith_56 rfl rfl rfl ?_
        obtain ⟨s8, H⟩ := H
        refine wq_iinc (pc := 57) (lo' := [iR 2, iI x1, iI x2, iI (Int.tdiv (x3 + x4) 2 + 1), iI x4, iI (x5 + 1), iI (Int.tdiv (x3 + x4) 2)]) dY_firstWith_57 rfl rfl (by rw [show wr (x5 + 1) = x5 + 1 from (Eq.trans (wr_eq (by omega) (by omega)) (by omega))]; rfl) ?_
        refine wq_goto (pc := 60) (tgt := 12) dY_firstWith_60 (by decide) ?_
        refine wq_drop [6] (lo' := [iR 2, iI x1, iI x2, iI (Int.tdiv (x3 + x4) 2 + 1), iI x4, iI (x5 + 1), none]) rfl ?_
        exact H
      · have H := H.2 c6
        refine wq_iload (pc := 45) dY_firstWith_45 rfl ?_
        refine wq_istore (pc := 47) (lo' := [iR 2, iI x1, iI x2, iI x3, iI (Int.tdiv (x3 + x4) 2), iI x5, iI (Int.tdiv (x3 + x4) 2)]) dY_firstWith_47 rfl rfl ?_
        refine wq_goto (pc := 49) (tgt := 57) dY_firstWith_49 (by decide) ?_
        obtain ⟨s9, H⟩ := H
        refine wq_iinc (pc := 57) (lo' := [iR 2, iI x1, iI x2, iI x3, iI (Int.tdiv (x3 + x4) 2), iI (x5 + 1), iI (Int.tdiv (x3 + x4) 2)]) dY_firstWith_57 rfl rfl (by rw [show wr (x5 + 1) = x5 + 1 from (Eq.trans (wr_eq (by omega) (by omega)) (by omega))]; rfl) ?_
        refine wq_goto (pc := 60) (tgt := 12) dY_firstWith_60 (by decide) ?_
        refine wq_drop [6] (lo' := [iR 2, iI x1, iI x2, iI x3, iI (Int.tdiv (x3 + x4) 2), iI (x5 + 1), none]) rfl ?_
        exact H
set_option maxRecDepth 20000 in
theorem B_Y_endOf_0 {x1 x2 x3 : Int} {M : Mm} {Q : Mm → Option Mv → Prop} (hS : RefOK M) (H : ((0 < x3 → ((x1 = 4 → ((-2147483648 ≤ x2 + x3 ∧ x2 + x3 < 2147483648) ∧ Q M (some (vI (x2 + x3))))) ∧ (¬ x1 = 4 → ((¬ x1 = 5 → ((¬ x1 = 1 → Wq 1 0 0 mY_byWeek 0 [iR 2, iI x2, iI x3, none, none, none, none] [] M (fun M' v => Wq 2 0 0 mY_endOf 38 [iR 2, iI x1, iI x2, iI x3, none] (v.toList ++ []) M' Q)) ∧ (x1 = 1 → ((x2 < 900 → ((0 ≤ x2 ∧ x2 < 901) ∧ (-2147483648 ≤ gI M 4 x2 + x3 ∧ gI M 4 x2 + x3 < 2147483648) ∧ ((gI M 4 x2 + x3 ≤ gI M 4 900 → Wq 1 0 0 mY_firstWith 0 [iR 2, iI (gI M 4 x2 + x3), iI x2, none, none, none, none] [] M (fun M' v => Wq 2 0 0 mY_endOf 88 [iR 2, iI x1, iI x2, iI x3, iI (gI M 4 x2 + x3)] (v.toList ++ []) M' Q)) ∧ (¬ gI M 4 x2 + x3 ≤ gI M 4 900 → ((-2147483648 ≤ gI M 4 x2 + x3 - gI M 4 900 ∧ gI M 4 x2 + x3 - gI M 4 900 < 2147483648) ∧ Wq 1 0 0 mY_byWeek 0 [iR 2, iI 900, iI (gI M 4 x2 + x3 - gI M 4 900), none, none, none, none] [] M (fun M' v => Wq 2 0 0 mY_endOf 80 [iR 2, iI x1, iI x2, iI x3, iI (gI M 4 x2 + x3)] (v.toList ++ []) M' Q)))))) ∧ (¬ x2 < 900 → Wq 1 0 0 mY_byWeek 0 [iR 2, iI x2, iI x3, none, none, none, none] [] M (fun M' v => Wq 2 0 0 mY_endOf 38 [iR 2, iI x1, iI x2, iI x3, none] (v.toList ++ []) M' Q)))))) ∧ (x1 = 5 → ((-2147483648 ≤ x2 + x3 ∧ x2 + x3 < 2147483648) ∧ Q M (some (vI (x2 + x3))))))))) ∧ (¬ 0 < x3 → Q M (some (vI x2))))) : Wq 2 0 0 mY_endOf 0 [iR 2, iI x1, iI x2, iI x3, none] [] M Q := by
  refine wq_iload_n (pc := 0) dY_endOf_0 rfl rfl ?_
  refine wq_if_gt (pc := 1) (tgt := 6) dY_endOf_1 (by decide) (fun c1 => ?_) (fun c1 => ?_)
  · have H := H.1 c1
    refine wq_iload_n (pc := 6) dY_endOf_6 rfl rfl ?_
    refine wq_iconst (pc := 7) dY_endOf_7 rfl ?_
    refine wq_icmp_eq (pc := 8) (tgt := 16) dY_endOf_8 (by decide) (fun c2 => ?_) (fun c2 => ?_)
    · have H := H.1 c2
      refine wq_iload_n (pc := 16) dY_endOf_16 rfl rfl ?_
      refine wq_iload_n (pc := 17) dY_endOf_17 rfl rfl ?_
      refine wq_iadd (pc := 18) dY_endOf_18 ?_
      obtain ⟨s3, H⟩ := H
      refine wq_re (x := (wr (x2 + x3))) (y := (x2 + x3)) (Eq.trans (wr_eq (by omega) (by omega)) (by omega)) ?_
      refine wq_ireturn (pc := 19) dY_endOf_19 trivial ?_
      exact H
    · have H := H.2 c2
      refine wq_iload_n (pc := 11) dY_endOf_11 rfl rfl ?_
      refine wq_iconst (pc := 12) dY_endOf_12 rfl ?_
      refine wq_icmp_ne (pc := 13) (tgt := 20) dY_endOf_13 (by decide) (fun c4 => ?_) (fun c4 => ?_)
      · have H := H.1 c4
        refine wq_iload_n (pc := 20) dY_endOf_20 rfl rfl ?_
        refine wq_iconst (pc := 21) dY_endOf_21 rfl ?_
        refine wq_icmp_ne (pc := 22) (tgt := 32) dY_endOf_22 (by decide) (fun c5 => ?_) (fun c5 => ?_)
        · have H := H.1 c5
          refine wq_aload_n (pc := 32) dY_endOf_32 rfl rfl ?_
          refine wq_iload_n (pc := 33) dY_endOf_33 rfl rfl ?_
          refine wq_iload_n (pc := 34) dY_endOf_34 rfl rfl ?_
          refine wq_callV (d' := 1) (pc := 35) (as := [vI x2, vI x3]) (rest := []) (lo' := [iR 2, iI x2, iI x3, none, none, none, none]) dY_endOf_35 mO_Y_byWeek lV_Y_55 sh_2 (by decide) cl_1 rfl rfl rfl rfl rfl rfl ?_
          exact H
        · have H := H.2 c5
          refine wq_iload_n (pc := 25) dY_endOf_25 rfl rfl ?_
          refine wq_sipush (pc := 26) dY_endOf_26 rfl ?_
          refine wq_icmp_lt (pc := 29) (tgt := 39) dY_endOf_29 (by decide) (fun c6 => ?_) (fun c6 => ?_)
          · have H := H.1 c6
            refine wq_aload_n (pc := 39) dY_endOf_39 rfl rfl ?_
            refine wq_getR (pc := 40) (z := 1) (b := 4) dY_endOf_40 fO_Y_15 sh_2 rfl rfl (rf_2_1 hS) ?_
            refine wq_iload_n (pc := 43) dY_endOf_43 rfl rfl ?_
            obtain ⟨s7, H⟩ := H
            refine wq_iald (pc := 44) dY_endOf_44 sh_4 s7.1 s7.2 ?_
            refine wq_iload_n (pc := 45) dY_endOf_45 rfl rfl ?_
            refine wq_iadd (pc := 46) dY_endOf_46 ?_
            obtain ⟨s8, H⟩ := H
            refine wq_re (x := (wr (gI M 4 x2 + x3))) (y := (gI M 4 x2 + x3)) (Eq.trans (wr_eq (by omega) (by omega)) (by omega)) ?_
            refine wq_istore (pc := 47) (lo' := [iR 2, iI x1, iI x2, iI x3, iI (gI M 4 x2 + x3)]) dY_endOf_47 rfl rfl ?_
            refine wq_iload (pc := 49) dY_endOf_49 rfl ?_
            refine wq_aload_n (pc := 51) dY_endOf_51 rfl rfl ?_
            refine wq_getR (pc := 52) (z := 1) (b := 4) dY_endOf_52 fO_Y_15 sh_2 rfl rfl (rf_2_1 hS) ?_
            refine wq_sipush (pc := 55) dY_endOf_55 rfl ?_
            refine wq_iald (pc := 58) dY_endOf_58 sh_4 (by decide) (by decide) ?_
            refine wq_icmp_le (pc := 59) (tgt := 81) dY_endOf_59 (by decide) (fun c9 => ?_) (fun c9 => ?_)
            · have H := H.1 c9
              refine wq_aload_n (pc := 81) dY_endOf_81 rfl rfl ?_
              refine wq_iload (pc := 82) dY_endOf_82 rfl ?_
              refine wq_iload_n (pc := 84) dY_endOf_84 rfl rfl ?_
              refine wq_callV (d' := 1) (pc := 85) (as := [vI (gI M 4 x2 + x3), vI x2]) (rest := []) (lo' := [iR 2, iI (gI M 4 x2 + x3), iI x2, none, none, none, none]) dY_endOf_85 mO_Y_firstWith lV_Y_58 sh_2 (by decide) cl_1 rfl rfl rfl rfl rfl rfl ?_
              exact H
            · have H := H.2 c9
              refine wq_aload_n (pc := 62) dY_endOf_62 rfl rfl ?_
              refine wq_sipush (pc := 63) dY_endOf_63 rfl ?_
              refine wq_iload (pc := 66) dY_endOf_66 rfl ?_
              refine wq_aload_n (pc := 68) dY_endOf_68 rfl rfl ?_
              refine wq_getR (pc := 69) (z := 1) (b := 4) dY_endOf_69 fO_Y_15 sh_2 rfl rfl (rf_2_1 hS) ?_
              refine wq_sipush (pc := 72) dY_endOf_72 rfl ?_
              refine wq_iald (pc := 75) dY_endOf_75 sh_4 (by decide) (by decide) ?_
              refine wq_isub (pc := 76) dY_endOf_76 ?_
              obtain ⟨s10, H⟩ := H
              refine wq_re (x := (wr (gI M 4 x2 + x3 - gI M 4 900))) (y := (gI M 4 x2 + x3 - gI M 4 900)) (Eq.trans (wr_eq (by omega) (by omega)) (by omega)) ?_
              refine wq_callV (d' := 1) (pc := 77) (as := [vI 900, vI (gI M 4 x2 + x3 - gI M 4 900)]) (rest := []) (lo' := [iR 2, iI 900, iI (gI M 4 x2 + x3 - gI M 4 900), none, none, none, none]) dY_endOf_77 mO_Y_byWeek lV_Y_55 sh_2 (by decide) cl_1 rfl rfl rfl rfl rfl rfl ?_
              exact H
          · have H := H.2 c6
            refine wq_aload_n (pc := 32) dY_endOf_32 rfl rfl ?_
            refine wq_iload_n (pc := 33) dY_endOf_33 rfl rfl ?_
            refine wq_iload_n (pc := 34) dY_endOf_34 rfl rfl ?_
            refine wq_callV (d' := 1) (pc := 35) (as := [vI x2, vI x3]) (rest := []) (lo' := [iR 2, iI x2, iI x3, none, none, none, none]) dY_endOf_35 mO_Y_byWeek lV_Y_55 sh_2 (by decide) cl_1 rfl rfl rfl rfl rfl rfl ?_
            exact H
      · have H := H.2 c4
        refine wq_iload_n (pc := 16) dY_endOf_16 rfl rfl ?_
        refine wq_iload_n (pc := 17) dY_endOf_17 rfl rfl ?_
        refine wq_iadd (pc := 18) dY_endOf_18 ?_
        obtain ⟨s11, H⟩ := H
        refine wq_re (x := (wr (x2 + x3))) (y := (x2 + x3)) (Eq.trans (wr_eq (by omega) (by omega)) (by omega)) ?_
        refine wq_ireturn (pc := 19) dY_endOf_19 trivial ?_
        exact H
  · have H := H.2 c1
    refine wq_iload_n (pc := 4) dY_endOf_4 rfl rfl ?_
    refine wq_ireturn (pc := 5) dY_endOf_5 trivial ?_
    exact H

set_option maxRecDepth 20000 in
theorem B_Y_endOf_38 {x1 x2 x3 y0 : Int} {M : Mm} {Q : Mm → Option Mv → Prop} (H : Q M (some (vI y0))) : Wq 2 0 0 mY_endOf 38 [iR 2, iI x1, iI x2, iI x3, none] [vI y0] M Q := by
  refine wq_ireturn (pc := 38) dY_endOf_38 trivial ?_
  exact H

set_option maxRecDepth 20000 in
theorem B_Y_endOf_80 {x1 x2 x3 x4 y0 : Int} {M : Mm} {Q : Mm → Option Mv → Prop} (H : Q M (some (vI y0))) : Wq 2 0 0 mY_endOf 80 [iR 2, iI x1, iI x2, iI x3, iI x4] [vI y0] M Q := by
  refine wq_ireturn (pc := 80) dY_endOf_80 trivial ?_
  exact H

set_option maxRecDepth 20000 in
theorem B_Y_endOf_88 {x1 x2 x3 x4 y0 : Int} {M : Mm} {Q : Mm → Option Mv → Prop} (H : Q M (some (vI y0))) : Wq 2 0 0 mY_endOf 88 [iR 2, iI x1, iI x2, iI x3, iI x4] [vI y0] M Q := by
  refine wq_ireturn (pc := 88) dY_endOf_88 trivial ?_
  exact H
set_option maxRecDepth 20000 in
theorem B_M_sort_0 {M : Mm} {Q : Mm → Option Mv → Prop} (H : Wq 2 0 0 mM_sort 4 [iR 80, iI 0, iI 0, none, none, none] [] M Q) : Wq 2 0 0 mM_sort 0 [iR 80, none, none, none, none, none] [] M Q := by
  refine wq_iconst (pc := 0) dM_sort_0 rfl ?_
  refine wq_istore_n (pc := 1) (lo' := [iR 80, iI 0, none, none, none, none]) dM_sort_1 rfl rfl rfl ?_
  refine wq_iconst (pc := 2) dM_sort_2 rfl ?_
  refine wq_istore_n (pc := 3) (lo' := [iR 80, iI 0, iI 0, none, none, none]) dM_sort_3 rfl rfl rfl ?_
  exact H

set_option maxRecDepth 20000 in
theorem B_M_sort_4 {x1 x2 : Int} {M : Mm} {Q : Mm → Option Mv → Prop} (hS : RefOK M) (H : ((gI M 81 2 ≤ x2 → Q (sI M 80 13 1) none) ∧ (¬ gI M 81 2 ≤ x2 → Wq 2 0 0 mM_sort 16 [iR 80, iI x1, iI x2, iI 0, none, none] [] M Q))) : Wq 2 0 0 mM_sort 4 [iR 80, iI x1, iI x2, none, none, none] [] M Q := by
  refine wq_iload_n (pc := 4) dM_sort_4 rfl rfl ?_
  refine wq_aload_n (pc := 5) dM_sort_5 rfl rfl ?_
  refine wq_getR (pc := 6) (z := 0) (b := 81) dM_sort_6 fO_M_9 sh_80 rfl rfl (rf_80_0 hS) ?_
  refine wq_iconst (pc := 9) dM_sort_9 rfl ?_
  refine wq_iald (pc := 10) dM_sort_10 sh_81 (by decide) (by decide) ?_
  refine wq_icmp_ge (pc := 11) (tgt := 140) dM_sort_11 (by decide) (fun c1 => ?_) (fun c1 => ?_)
  · have H := H.1 c1
    refine wq_aload_n (pc := 140) dM_sort_140 rfl rfl ?_
    refine wq_iconst (pc := 141) dM_sort_141 rfl ?_
    refine wq_putZ (pc := 142) (z := 13) dM_sort_142 fW_M_135 sh_80 rfl rfl (Or.inr rfl) ?_
    refine wq_return (pc := 145) dM_sort_145 trivial ?_
    exact H
  · have H := H.2 c1
    refine wq_iconst (pc := 14) dM_sort_14 rfl ?_
    refine wq_istore_n (pc := 15) (lo' := [iR 80, iI x1, iI x2, iI 0, none, none]) dM_sort_15 rfl rfl rfl ?_
    exact H

set_option maxRecDepth 20000 in
theorem B_M_sort_16 {x1 x2 x3 : Int} {M : Mm} {Q : Mm → Option Mv → Prop} (hS : RefOK M) (H : ((gI M 81 2 ≤ x3 → Wq 2 0 0 mM_sort 4 [iR 80, iI x1, iI x2, none, none, none] [] M Q) ∧ (¬ gI M 81 2 ≤ x3 → Wq 1 0 0 mM_has 0 [iI x1, iI x3] [] M (fun M' v => Wq 2 0 0 mM_sort 31 [iR 80, iI x1, iI x2, iI x3, none, none] (v.toList ++ []) M' Q)))) : Wq 2 0 0 mM_sort 16 [iR 80, iI x1, iI x2, iI x3, none, none] [] M Q := by
  refine wq_iload_n (pc := 16) dM_sort_16 rfl rfl ?_
  refine wq_aload_n (pc := 17) dM_sort_17 rfl rfl ?_
  refine wq_getR (pc := 18) (z := 0) (b := 81) dM_sort_18 fO_M_9 sh_80 rfl rfl (rf_80_0 hS) ?_
  refine wq_iconst (pc := 21) dM_sort_21 rfl ?_
  refine wq_iald (pc := 22) dM_sort_22 sh_81 (by decide) (by decide) ?_
  refine wq_icmp_ge (pc := 23) (tgt := 137) dM_sort_23 (by decide) (fun c1 => ?_) (fun c1 => ?_)
  · have H := H.1 c1
    refine wq_goto (pc := 137) (tgt := 4) dM_sort_137 (by decide) ?_
    refine wq_drop [3] (lo' := [iR 80, iI x1, iI x2, none, none, none]) rfl ?_
    exact H
  · have H := H.2 c1
    refine wq_iload_n (pc := 26) dM_sort_26 rfl rfl ?_
    refine wq_iload_n (pc := 27) dM_sort_27 rfl rfl ?_
    refine wq_callS (d' := 1) (pc := 28) (as := [vI x1, vI x3]) (rest := []) (lo' := [iI x1, iI x3]) dM_sort_28 mO_M_has lS_M_102 rfl rfl rfl rfl rfl rfl ?_
    exact H

set_option maxRecDepth 20000 in
theorem B_M_sort_31 {x1 x2 x3 y0 : Int} {M : Mm} {Q : Mm → Option Mv → Prop} (H : ((¬ y0 = 0 → Wq 2 0 0 mM_sort 44 [iR 80, iI x1, iI x2, iI x3, iI 0, iI 0] [] M Q) ∧ (y0 = 0 → Wq 2 0 0 mM_sort 44 [iR 80, iI x1, iI x2, iI x3, iI 1, iI 0] [] M Q))) : Wq 2 0 0 mM_sort 31 [iR 80, iI x1, iI x2, iI x3, none, none] [vI y0] M Q := by
  refine wq_if_ne (pc := 31) (tgt := 38) dM_sort_31 (by decide) (fun c1 => ?_) (fun c1 => ?_)
  · have H := H.1 c1
    refine wq_iconst (pc := 38) dM_sort_38 rfl ?_
    refine wq_istore (pc := 39) (lo' := [iR 80, iI x1, iI x2, iI x3, iI 0, none]) dM_sort_39 rfl rfl ?_
    refine wq_iconst (pc := 41) dM_sort_41 rfl ?_
    refine wq_istore (pc := 42) (lo' := [iR 80, iI x1, iI x2, iI x3, iI 0, iI 0]) dM_sort_42 rfl rfl ?_
    exact H
  · have H := H.2 c1
    refine wq_iconst (pc := 34) dM_sort_34 rfl ?_
    refine wq_goto (pc := 35) (tgt := 39) dM_sort_35 (by decide) ?_
    refine wq_istore (pc := 39) (lo' := [iR 80, iI x1, iI x2, iI x3, iI 1, none]) dM_sort_39 rfl rfl ?_
    refine wq_iconst (pc := 41) dM_sort_41 rfl ?_
    refine wq_istore (pc := 42) (lo' := [iR 80, iI x1, iI x2, iI x3, iI 1, iI 0]) dM_sort_42 rfl rfl ?_
    exact H

set_option maxRecDepth 20000 in
theorem B_M_sort_44 {x1 x2 x3 x4 x5 : Int} {M : Mm} {Q : Mm → Option Mv → Prop} (hS : RefOK M) (H : ((gI M 81 3 ≤ x5 → ((x4 = 0 → ((-2147483648 ≤ x3 + 1 ∧ x3 + 1 < 2147483648) ∧ Wq 2 0 0 mM_sort 16 [iR 80, iI x1, iI x2, iI (x3 + 1), none, none] [] M Q)) ∧ (¬ x4 = 0 → ((0 ≤ x2 ∧ x2 < 16) ∧ (-2147483648 ≤ x2 + 1 ∧ x2 + 1 < 2147483648) ∧ (-2147483648 ≤ x3 + 1 ∧ x3 + 1 < 2147483648) ∧ Wq 2 0 0 mM_sort 16 [iR 80, iI (bOr x1 (bShl 1 x3)), iI (x2 + 1), iI (x3 + 1), none, none] [] (sI M 91 x2 x3) Q)))) ∧ (¬ gI M 81 3 ≤ x5 → ((x4 = 0 → ((x4 = 0 → ((-2147483648 ≤ x3 + 1 ∧ x3 + 1 < 2147483648) ∧ Wq 2 0 0 mM_sort 16 [iR 80, iI x1, iI x2, iI (x3 + 1), none, none] [] M Q)) ∧ (¬ x4 = 0 → ((0 ≤ x2 ∧ x2 < 16) ∧ (-2147483648 ≤ x2 + 1 ∧ x2 + 1 < 2147483648) ∧ (-2147483648 ≤ x3 + 1 ∧ x3 + 1 < 2147483648) ∧ Wq 2 0 0 mM_sort 16 [iR 80, iI (bOr x1 (bShl 1 x3)), iI (x2 + 1), iI (x3 + 1), none, none] [] (sI M 91 x2 x3) Q)))) ∧ (¬ x4 = 0 → ((0 ≤ 58 + 3 * x5 + 1 ∧ 58 + 3 * x5 + 1 < 1993) ∧ ((¬ gI M 81 (58 + 3 * x5 + 1) = x3 → ((-2147483648 ≤ x5 + 1 ∧ x5 + 1 < 2147483648) ∧ Wq 2 0 0 mM_sort 44 [iR 80, iI x1, iI x2, iI x3, iI 1, iI (x5 + 1)] [] M Q)) ∧ (gI M 81 (58 + 3 * x5 + 1) = x3 → ((0 ≤ 58 + 3 * x5 ∧ 58 + 3 * x5 < 1993) ∧ Wq 1 0 0 mM_has 0 [iI x1, iI (gI M 81 (58 + 3 * x5))] [] M (fun M' v => Wq 2 0 0 mM_sort 94 [iR 80, iI x1, iI x2, iI x3, iI x4, iI x5] (v.toList ++ []) M' Q)))))))))) : Wq 2 0 0 mM_sort 44 [iR 80, iI x1, iI x2, iI x3, iI x4, iI x5] [] M Q := by
  refine wq_iload (pc := 44) dM_sort_44 rfl ?_
  refine wq_aload_n (pc := 46) dM_sort_46 rfl rfl ?_
  refine wq_getR (pc := 47) (z := 0) (b := 81) dM_sort_47 fO_M_9 sh_80 rfl rfl (rf_80_0 hS) ?_
  refine wq_iconst (pc := 50) dM_sort_50 rfl ?_
  refine wq_iald (pc := 51) dM_sort_51 sh_81 (by decide) (by decide) ?_
  refine wq_icmp_ge (pc := 52) (tgt := 110) dM_sort_52 (by decide) (fun c1 => ?_) (fun c1 => ?_)
  · have H := H.1 c1
    refine wq_iload (pc := 110) dM_sort_110 rfl ?_
    refine wq_if_eq (pc := 112) (tgt := 131) dM_sort_112 (by decide) (fun c2 => ?_) (fun c2 => ?_)
    · have H := H.1 c2
      obtain ⟨s3, H⟩ := H
      refine wq_iinc (pc := 131) (lo' := [iR 80, iI x1, iI x2, iI (x3 + 1), iI x4, iI x5]) dM_sort_131 rfl rfl (by rw [show wr (x3 + 1) = x3 + 1 from (Eq.trans (wr_eq (by omega) (by omega)) (by omega))]; rfl) ?_
      refine wq_goto (pc := 134) (tgt := 16) dM_sort_134 (by decide) ?_
      refine wq_drop [4, 5] (lo' := [iR 80, iI x1, iI x2, iI (x3 + 1), none, none]) rfl ?_
      exact H
    · have H := H.2 c2
      refine wq_aload_n (pc := 115) dM_sort_115 rfl rfl ?_
      refine wq_getR (pc := 116) (z := 12) (b := 91) dM_sort_116 fO_M_40 sh_80 rfl rfl (rf_80_12 hS) ?_
      refine wq_iload_n (pc := 119) dM_sort_119 rfl rfl ?_
      refine wq_iload_n (pc := 120) dM_sort_120 rfl rfl ?_
      obtain ⟨s4, H⟩ := H
      refine wq_iast (pc := 121) dM_sort_121 sh_91 (by decide) s4.1 s4.2 ?_
      obtain ⟨s5, H⟩ := H
      refine wq_iinc (pc := 122) (lo' := [iR 80, iI x1, iI (x2 + 1), iI x3, iI x4, iI x5]) dM_sort_122 rfl rfl (by rw [show wr (x2 + 1) = x2 + 1 from (Eq.trans (wr_eq (by omega) (by omega)) (by omega))]; rfl) ?_
      refine wq_iload_n (pc := 125) dM_sort_125 rfl rfl ?_
      refine wq_iconst (pc := 126) dM_sort_126 rfl ?_
      refine wq_iload_n (pc := 127) dM_sort_127 rfl rfl ?_
      refine wq_ishl (pc := 128) dM_sort_128 ?_
      refine wq_ior (pc := 129) dM_sort_129 ?_
      refine wq_istore_n (pc := 130) (lo' := [iR 80, iI (bOr x1 (bShl 1 x3)), iI (x2 + 1), iI x3, iI x4, iI x5]) dM_sort_130 rfl rfl rfl ?_
      obtain ⟨s6, H⟩ := H
      refine wq_iinc (pc := 131) (lo' := [iR 80, iI (bOr x1 (bShl 1 x3)), iI (x2 + 1), iI (x3 + 1), iI x4, iI x5]) dM_sort_131 rfl rfl (by rw [show wr (x3 + 1) = x3 + 1 from (Eq.trans (wr_eq (by omega) (by omega)) (by omega))]; rfl) ?_
      refine wq_goto (pc := 134) (tgt := 16) dM_sort_134 (by decide) ?_
      refine wq_drop [4, 5] (lo' := [iR 80, iI (bOr x1 (bShl 1 x3)), iI (x2 + 1), iI (x3 + 1), none, none]) rfl ?_
      exact H
  · have H := H.2 c1
    refine wq_iload (pc := 55) dM_sort_55 rfl ?_
    refine wq_if_eq (pc := 57) (tgt := 110) dM_sort_57 (by decide) (fun c7 => ?_) (fun c7 => ?_)
    · have H := H.1 c7
      refine wq_iload (pc := 110) dM_sort_110 rfl ?_
      refine wq_if_eq (pc := 112) (tgt := 131) dM_sort_112 (by decide) (fun c8 => ?_) (fun c8 => ?_)
      · have H := H.1 c8
        obtain ⟨s9, H⟩ := H
        refine wq_iinc (pc := 131) (lo' := [iR 80, iI x1, iI x2, iI (x3 + 1), iI x4, iI x5]) dM_sort_131 rfl rfl (by rw [show wr (x3 + 1) = x3 + 1 from (Eq.trans (wr_eq (by omega) (by omega)) (by omega))]; rfl) ?_
        refine wq_goto (pc := 134) (tgt := 16) dM_sort_134 (by decide) ?_
        refine wq_drop [4, 5] (lo' := [iR 80, iI x1, iI x2, iI (x3 + 1), none, none]) rfl ?_
        exact H
      · have H := H.2 c8
        refine wq_aload_n (pc := 115) dM_sort_115 rfl rfl ?_
        refine wq_getR (pc := 116) (z := 12) (b := 91) dM_sort_116 fO_M_40 sh_80 rfl rfl (rf_80_12 hS) ?_
        refine wq_iload_n (pc := 119) dM_sort_119 rfl rfl ?_
        refine wq_iload_n (pc := 120) dM_sort_120 rfl rfl ?_
        obtain ⟨s10, H⟩ := H
        refine wq_iast (pc := 121) dM_sort_121 sh_91 (by decide) s10.1 s10.2 ?_
        obtain ⟨s11, H⟩ := H
        refine wq_iinc (pc := 122) (lo' := [iR 80, iI x1, iI (x2 + 1), iI x3, iI x4, iI x5]) dM_sort_122 rfl rfl (by rw [show wr (x2 + 1) = x2 + 1 from (Eq.trans (wr_eq (by omega) (by omega)) (by omega))]; rfl) ?_
        refine wq_iload_n (pc := 125) dM_sort_125 rfl rfl ?_
        refine wq_iconst (pc := 126) dM_sort_126 rfl ?_
        refine wq_iload_n (pc := 127) dM_sort_127 rfl rfl ?_
        refine wq_ishl (pc := 128) dM_sort_128 ?_
        refine wq_ior (pc := 129) dM_sort_129 ?_
        refine wq_istore_n (pc := 130) (lo' := [iR 80, iI (bOr x1 (bShl 1 x3)), iI (x2 + 1), iI x3, iI x4, iI x5]) dM_sort_130 rfl rfl rfl ?_
        obtain ⟨s12, H⟩ := H
        refine wq_iinc (pc := 131) (lo' := [iR 80, iI (bOr x1 (bShl 1 x3)), iI (x2 + 1), iI (x3 + 1), iI x4, iI x5]) dM_sort_131 rfl rfl (by rw [show wr (x3 + 1) = x3 + 1 from (Eq.trans (wr_eq (by omega) (by omega)) (by omega))]; rfl) ?_
        refine wq_goto (pc := 134) (tgt := 16) dM_sort_134 (by decide) ?_
        refine wq_drop [4, 5] (lo' := [iR 80, iI (bOr x1 (bShl 1 x3)), iI (x2 + 1), iI (x3 + 1), none, none]) rfl ?_
        exact H
    · have H := H.2 c7
      refine wq_aload_n (pc := 60) dM_sort_60 rfl rfl ?_
      refine wq_getR (pc := 61) (z := 0) (b := 81) dM_sort_61 fO_M_9 sh_80 rfl rfl (rf_80_0 hS) ?_
      refine wq_bipush (pc := 64) dM_sort_64 rfl ?_
      refine wq_iconst (pc := 66) dM_sort_66 rfl ?_
      refine wq_iload (pc := 67) dM_sort_67 rfl ?_
      refine wq_imul (pc := 69) dM_sort_69 ?_
      refine wq_iadd (pc := 70) dM_sort_70 ?_
      refine wq_iconst (pc := 71) dM_sort_71 rfl ?_
      refine wq_iadd (pc := 72) dM_sort_72 ?_
      obtain ⟨s13, H⟩ := H
      refine wq_re (x := (wr (wr (58 + wr (3 * x5)) + 1))) (y := (58 + 3 * x5 + 1)) (by (try simp only [wr_al, wr_ar, wr_sl, wr_sr, wr_ml, wr_mr, wr_nn, wr_ww]); exact Eq.trans (wr_eq (by omega) (by omega)) (by omega)) ?_
      refine wq_iald (pc := 73) dM_sort_73 sh_81 s13.1 s13.2 ?_
      refine wq_iload_n (pc := 74) dM_sort_74 rfl rfl ?_
      refine wq_icmp_ne (pc := 75) (tgt := 97) dM_sort_75 (by decide) (fun c14 => ?_) (fun c14 => ?_)
      · have H := H.1 c14
        refine wq_iconst (pc := 97) dM_sort_97 rfl ?_
        refine wq_goto (pc := 98) (tgt := 102) dM_sort_98 (by decide) ?_
        refine wq_istore (pc := 102) (lo' := [iR 80, iI x1, iI x2, iI x3, iI 1, iI x5]) dM_sort_102 rfl rfl ?_
        obtain ⟨s15, H⟩ := H
        refine wq_iinc (pc := 104) (lo' := [iR 80, iI x1, iI x2, iI x3, iI 1, iI (x5 + 1)]) dM_sort_104 rfl rfl (by rw [show wr (x5 + 1) = x5 + 1 from (Eq.trans (wr_eq (by omega) (by omega)) (by omega))]; rfl) ?_
        refine wq_goto (pc := 107) (tgt := 44) dM_sort_107 (by decide) ?_
        exact H
      · have H := H.2 c14
        refine wq_iload_n (pc := 78) dM_sort_78 rfl rfl ?_
        refine wq_aload_n (pc := 79) dM_sort_79 rfl rfl ?_
        refine wq_getR (pc := 80) (z := 0) (b := 81) dM_sort_80 fO_M_9 sh_80 rfl rfl (rf_80_0 hS) ?_
        refine wq_bipush (pc := 83) dM_sort_83 rfl ?_
        refine wq_iconst (pc := 85) dM_sort_85 rfl ?_
        refine wq_iload (pc := 86) dM_sort_86 rfl ?_
        refine wq_imul (pc := 88) dM_sort_88 ?_
        refine wq_iadd (pc := 89) dM_sort_89 ?_
        obtain ⟨s16, H⟩ := H
        refine wq_re (x := (wr (58 + wr (3 * x5)))) (y := (58 + 3 * x5)) (by (try simp only [wr_al, wr_ar, wr_sl, wr_sr, wr_ml, wr_mr, wr_nn, wr_ww]); exact Eq.trans (wr_eq (by omega) (by omega)) (by omega)) ?_
        refine wq_iald (pc := 90) dM_sort_90 sh_81 s16.1 s16.2 ?_
        refine wq_callS (d' := 1) (pc := 91) (as := [vI x1, vI (gI M 81 (58 + 3 * x5))]) (rest := []) (lo' := [iI x1, iI (gI M 81 (58 + 3 * x5))]) dM_sort_91 mO_M_has lS_M_102 rfl rfl rfl rfl rfl rfl ?_
        exact H

set_option maxRecDepth 20000 in
theorem B_M_sort_94 {x1 x2 x3 x4 x5 y0 : Int} {M : Mm} {Q : Mm → Option Mv → Prop} (H : ((y0 = 0 → ((-2147483648 ≤ x5 + 1 ∧ x5 + 1 < 2147483648) ∧ Wq 2 0 0 mM_sort 44 [iR 80, iI x1, iI x2, iI x3, iI 0, iI (x5 + 1)] [] M Q)) ∧ (¬ y0 = 0 → ((-2147483648 ≤ x5 + 1 ∧ x5 + 1 < 2147483648) ∧ Wq 2 0 0 mM_sort 44 [iR 80, iI x1, iI x2, iI x3, iI 1, iI (x5 + 1)] [] M Q)))) : Wq 2 0 0 mM_sort 94 [iR 80, iI x1, iI x2, iI x3, iI x4, iI x5] [vI y0] M Q := by
  refine wq_if_eq (pc := 94) (tgt := 101) dM_sort_94 (by decide) (fun c1 => ?_) (fun c1 => ?_)
  · have H := H.1 c1
    refine wq_iconst (pc := 101) dM_sort_101 rfl ?_
    refine wq_istore (pc := 102) (lo' := [iR 80, iI x1, iI x2, iI x3, iI 0, iI x5]) dM_sort_102 rfl rfl ?_
    obtain ⟨s2, H⟩ := H
    refine wq_iinc (pc := 104) (lo' := [iR 80, iI x1, iI x2, iI x3, iI 0, iI (x5 + 1)]) dM_sort_104 rfl rfl (by rw [show wr (x5 + 1) = x5 + 1 from (Eq.trans (wr_eq (by omega) (by omega)) (by omega))]; rfl) ?_
    refine wq_goto (pc := 107) (tgt := 44) dM_sort_107 (by decide) ?_
    exact H
  · have H := H.2 c1
    refine wq_iconst (pc := 97) dM_sort_97 rfl ?_
    refine wq_goto (pc := 98) (tgt := 102) dM_sort_98 (by decide) ?_
    refine wq_istore (pc := 102) (lo' := [iR 80, iI x1, iI x2, iI x3, iI 1, iI x5]) dM_sort_102 rfl rfl ?_
    obtain ⟨s3, H⟩ := H
    refine wq_iinc (pc := 104) (lo' := [iR 80, iI x1, iI x2, iI x3, iI 1, iI (x5 + 1)]) dM_sort_104 rfl rfl (by rw [show wr (x5 + 1) = x5 + 1 from (Eq.trans (wr_eq (by omega) (by omega)) (by omega))]; rfl) ?_
    refine wq_goto (pc := 107) (tgt := 44) dM_sort_107 (by decide) ?_
    exact H
set_option maxRecDepth 20000 in
theorem B_M_endOf_0 {x1 x2 x3 : Int} {M : Mm} {Q : Mm → Option Mv → Prop} (H : Wq 1 0 0 mM_kindOf 0 [iR 80, iI x1] [] M (fun M' v => Wq 3 0 0 mM_endOf 5 [iR 80, iI x1, iI x2, iI x3, none, none, none] (v.toList ++ []) M' Q)) : Wq 3 0 0 mM_endOf 0 [iR 80, iI x1, iI x2, iI x3, none, none, none] [] M Q := by
  refine wq_aload_n (pc := 0) dM_endOf_0 rfl rfl ?_
  refine wq_iload_n (pc := 1) dM_endOf_1 rfl rfl ?_
  refine wq_callV (d' := 1) (pc := 2) (as := [vI x1]) (rest := []) (lo' := [iR 80, iI x1]) dM_endOf_2 mO_M_kindOf lV_M_88 sh_80 (by decide) cl_11 rfl rfl rfl rfl rfl rfl ?_
  exact H

set_option maxRecDepth 20000 in
theorem B_M_endOf_5 {x1 x2 x3 y0 : Int} {M : Mm} {Q : Mm → Option Mv → Prop} (H : ((y0 = 4 → ((-2147483648 ≤ x2 + max 0 x3 ∧ x2 + max 0 x3 < 2147483648) ∧ Q M (some (vI (x2 + max 0 x3))))) ∧ (¬ y0 = 4 → ((¬ y0 = 5 → Wq 3 0 0 mM_endOf 33 [iR 80, iI x1, iI x2, iI x3, iI y0, iI x3, iI x2] [] M Q) ∧ (y0 = 5 → ((-2147483648 ≤ x2 + max 0 x3 ∧ x2 + max 0 x3 < 2147483648) ∧ Q M (some (vI (x2 + max 0 x3))))))))) : Wq 3 0 0 mM_endOf 5 [iR 80, iI x1, iI x2, iI x3, none, none, none] [vI y0] M Q := by
  refine wq_istore (pc := 5) (lo' := [iR 80, iI x1, iI x2, iI x3, iI y0, none, none]) dM_endOf_5 rfl rfl ?_
  refine wq_iload (pc := 7) dM_endOf_7 rfl ?_
  refine wq_iconst (pc := 9) dM_endOf_9 rfl ?_
  refine wq_icmp_eq (pc := 10) (tgt := 19) dM_endOf_10 (by decide) (fun c1 => ?_) (fun c1 => ?_)
  · have H := H.1 c1
    refine wq_iload_n (pc := 19) dM_endOf_19 rfl rfl ?_
    refine wq_iconst (pc := 20) dM_endOf_20 rfl ?_
    refine wq_iload_n (pc := 21) dM_endOf_21 rfl rfl ?_
    refine wq_max (pc := 22) dM_endOf_22 xO_M_139 rfl ?_
    refine wq_iadd (pc := 25) dM_endOf_25 ?_
    obtain ⟨s2, H⟩ := H
    refine wq_re (x := (wr (x2 + max 0 x3))) (y := (x2 + max 0 x3)) (Eq.trans (wr_eq (by omega) (by omega)) (by omega)) ?_
    refine wq_ireturn (pc := 26) dM_endOf_26 trivial ?_
    exact H
  · have H := H.2 c1
    refine wq_iload (pc := 13) dM_endOf_13 rfl ?_
    refine wq_iconst (pc := 15) dM_endOf_15 rfl ?_
    refine wq_icmp_ne (pc := 16) (tgt := 27) dM_endOf_16 (by decide) (fun c3 => ?_) (fun c3 => ?_)
    · have H := H.1 c3
      refine wq_iload_n (pc := 27) dM_endOf_27 rfl rfl ?_
      refine wq_istore (pc := 28) (lo' := [iR 80, iI x1, iI x2, iI x3, iI y0, iI x3, none]) dM_endOf_28 rfl rfl ?_
      refine wq_iload_n (pc := 30) dM_endOf_30 rfl rfl ?_
      refine wq_istore (pc := 31) (lo' := [iR 80, iI x1, iI x2, iI x3, iI y0, iI x3, iI x2]) dM_endOf_31 rfl rfl ?_
      exact H
    · have H := H.2 c3
      refine wq_iload_n (pc := 19) dM_endOf_19 rfl rfl ?_
      refine wq_iconst (pc := 20) dM_endOf_20 rfl ?_
      refine wq_iload_n (pc := 21) dM_endOf_21 rfl rfl ?_
      refine wq_max (pc := 22) dM_endOf_22 xO_M_139 rfl ?_
      refine wq_iadd (pc := 25) dM_endOf_25 ?_
      obtain ⟨s4, H⟩ := H
      refine wq_re (x := (wr (x2 + max 0 x3))) (y := (x2 + max 0 x3)) (Eq.trans (wr_eq (by omega) (by omega)) (by omega)) ?_
      refine wq_ireturn (pc := 26) dM_endOf_26 trivial ?_
      exact H

set_option maxRecDepth 20000 in
theorem B_M_endOf_33 {x1 x2 x3 x4 x5 x6 : Int} {M : Mm} {Q : Mm → Option Mv → Prop} (H : ((x5 ≤ 0 → Q M (some (vI x6))) ∧ (¬ x5 ≤ 0 → Wq 2 0 0 mM_goesOn 0 [iR 80, iI x1, iI x6, none, none, none] [] M (fun M' v => Wq 3 0 0 mM_endOf 47 [iR 80, iI x1, iI x2, iI x3, iI x4, iI x5, iI x6] (v.toList ++ [vI x5]) M' Q)))) : Wq 3 0 0 mM_endOf 33 [iR 80, iI x1, iI x2, iI x3, iI x4, iI x5, iI x6] [] M Q := by
  refine wq_iload (pc := 33) dM_endOf_33 rfl ?_
  refine wq_if_le (pc := 35) (tgt := 64) dM_endOf_35 (by decide) (fun c1 => ?_) (fun c1 => ?_)
  · have H := H.1 c1
    refine wq_iload (pc := 64) dM_endOf_64 rfl ?_
    refine wq_ireturn (pc := 66) dM_endOf_66 trivial ?_
    exact H
  · have H := H.2 c1
    refine wq_iload (pc := 38) dM_endOf_38 rfl ?_
    refine wq_aload_n (pc := 40) dM_endOf_40 rfl rfl ?_
    refine wq_iload_n (pc := 41) dM_endOf_41 rfl rfl ?_
    refine wq_iload (pc := 42) dM_endOf_42 rfl ?_
    refine wq_callV (d' := 2) (pc := 44) (as := [vI x1, vI x6]) (rest := [vI x5]) (lo' := [iR 80, iI x1, iI x6, none, none, none]) dM_endOf_44 mO_M_goesOn lV_M_144 sh_80 (by decide) cl_11 rfl rfl rfl rfl rfl rfl ?_
    exact H

set_option maxRecDepth 20000 in
theorem B_M_endOf_47 {x1 x2 x3 x4 x5 x6 y0 y1 : Int} {M : Mm} {Q : Mm → Option Mv → Prop} (H : ((y0 = 0 → ((-2147483648 ≤ y1 ∧ y1 < 2147483648) ∧ (-2147483648 ≤ x6 + 1 ∧ x6 + 1 < 2147483648) ∧ Wq 3 0 0 mM_endOf 33 [iR 80, iI x1, iI x2, iI x3, iI x4, iI y1, iI (x6 + 1)] [] M Q)) ∧ (¬ y0 = 0 → ((-2147483648 ≤ y1 - 1 ∧ y1 - 1 < 2147483648) ∧ (-2147483648 ≤ x6 + 1 ∧ x6 + 1 < 2147483648) ∧ Wq 3 0 0 mM_endOf 33 [iR 80, iI x1, iI x2, iI x3, iI x4, iI (y1 - 1), iI (x6 + 1)] [] M Q)))) : Wq 3 0 0 mM_endOf 47 [iR 80, iI x1, iI x2, iI x3, iI x4, iI x5, iI x6] [vI y0, vI y1] M Q := by
  refine wq_if_eq (pc := 47) (tgt := 54) dM_endOf_47 (by decide) (fun c1 => ?_) (fun c1 => ?_)
  · have H := H.1 c1
    refine wq_iconst (pc := 54) dM_endOf_54 rfl ?_
    refine wq_isub (pc := 55) dM_endOf_55 ?_
    obtain ⟨s2, H⟩ := H
    refine wq_re (x := (wr (y1 - 0))) (y := y1) (Eq.trans (wr_eq (by omega) (by omega)) (by omega)) ?_
    refine wq_istore (pc := 56) (lo' := [iR 80, iI x1, iI x2, iI x3, iI x4, iI y1, iI x6]) dM_endOf_56 rfl rfl ?_
    obtain ⟨s3, H⟩ := H
    refine wq_iinc (pc := 58) (lo' := [iR 80, iI x1, iI x2, iI x3, iI x4, iI y1, iI (x6 + 1)]) dM_endOf_58 rfl rfl (by rw [show wr (x6 + 1) = x6 + 1 from (Eq.trans (wr_eq (by omega) (by omega)) (by omega))]; rfl) ?_
    refine wq_goto (pc := 61) (tgt := 33) dM_endOf_61 (by decide) ?_
    exact H
  · have H := H.2 c1
    refine wq_iconst (pc := 50) dM_endOf_50 rfl ?_
    refine wq_goto (pc := 51) (tgt := 55) dM_endOf_51 (by decide) ?_
    refine wq_isub (pc := 55) dM_endOf_55 ?_
    obtain ⟨s4, H⟩ := H
    refine wq_re (x := (wr (y1 - 1))) (y := (y1 - 1)) (Eq.trans (wr_eq (by omega) (by omega)) (by omega)) ?_
    refine wq_istore (pc := 56) (lo' := [iR 80, iI x1, iI x2, iI x3, iI x4, iI (y1 - 1), iI x6]) dM_endOf_56 rfl rfl ?_
    obtain ⟨s5, H⟩ := H
    refine wq_iinc (pc := 58) (lo' := [iR 80, iI x1, iI x2, iI x3, iI x4, iI (y1 - 1), iI (x6 + 1)]) dM_endOf_58 rfl rfl (by rw [show wr (x6 + 1) = x6 + 1 from (Eq.trans (wr_eq (by omega) (by omega)) (by omega))]; rfl) ?_
    refine wq_goto (pc := 61) (tgt := 33) dM_endOf_61 (by decide) ?_
    exact H
set_option maxRecDepth 20000 in
theorem B_H_next_0 {M : Mm} {Q : Mm → Option Mv → Prop} (H : ((-2147483648 ≤ gI M 26 3 - 1 ∧ gI M 26 3 - 1 < 2147483648) ∧ Wq 1 0 0 mH_next 7 [iR 26, iR 70, iI (gI M 26 3 - 1)] [] M Q)) : Wq 1 0 0 mH_next 0 [iR 26, iR 70, none] [] M Q := by
  refine wq_aload_n (pc := 0) dH_next_0 rfl rfl ?_
  refine wq_getI (pc := 1) (z := 3) dH_next_1 fO_H_21 sh_26 rfl rfl ?_
  refine wq_iconst (pc := 4) dH_next_4 rfl ?_
  refine wq_isub (pc := 5) dH_next_5 ?_
  obtain ⟨s1, H⟩ := H
  refine wq_re (x := (wr (gI M 26 3 - 1))) (y := (gI M 26 3 - 1)) (Eq.trans (wr_eq (by omega) (by omega)) (by omega)) ?_
  refine wq_istore_n (pc := 6) (lo' := [iR 26, iR 70, iI (gI M 26 3 - 1)]) dH_next_6 rfl rfl rfl ?_
  exact H

set_option maxRecDepth 20000 in
theorem B_H_next_7 {x2 : Int} {M : Mm} {Q : Mm → Option Mv → Prop} (hS : RefOK M) (H : ((x2 < 0 → Q M (some (vI 0))) ∧ (¬ x2 < 0 → ((0 ≤ x2 ∧ x2 < 5) ∧ ((gI M 28 x2 ≤ gI M 70 x2 → ((-2147483648 ≤ x2 - 1 ∧ x2 - 1 < 2147483648) ∧ Wq 1 0 0 mH_next 7 [iR 26, iR 70, iI (x2 - 1)] [] (sI M 70 x2 0) Q)) ∧ (¬ gI M 28 x2 ≤ gI M 70 x2 → ((-2147483648 ≤ gI M 70 x2 + 1 ∧ gI M 70 x2 + 1 < 2147483648) ∧ Q (sI M 70 x2 (gI M 70 x2 + 1)) (some (vI 1))))))))) : Wq 1 0 0 mH_next 7 [iR 26, iR 70, iI x2] [] M Q := by
  refine wq_iload_n (pc := 7) dH_next_7 rfl rfl ?_
  refine wq_if_lt (pc := 8) (tgt := 42) dH_next_8 (by decide) (fun c1 => ?_) (fun c1 => ?_)
  · have H := H.1 c1
    refine wq_iconst (pc := 42) dH_next_42 rfl ?_
    refine wq_ireturn (pc := 43) dH_next_43 (Or.inl rfl) ?_
    exact H
  · have H := H.2 c1
    refine wq_aload_n (pc := 11) dH_next_11 rfl rfl ?_
    refine wq_iload_n (pc := 12) dH_next_12 rfl rfl ?_
    obtain ⟨s2, H⟩ := H
    refine wq_iald (pc := 13) dH_next_13 sh_70 s2.1 s2.2 ?_
    refine wq_aload_n (pc := 14) dH_next_14 rfl rfl ?_
    refine wq_getR (pc := 15) (z := 1) (b := 28) dH_next_15 fO_H_15 sh_26 rfl rfl (rf_26_1 hS) ?_
    refine wq_iload_n (pc := 18) dH_next_18 rfl rfl ?_
    refine wq_iald (pc := 19) dH_next_19 sh_28 s2.1 s2.2 ?_
    refine wq_icmp_ge (pc := 20) (tgt := 32) dH_next_20 (by decide) (fun c3 => ?_) (fun c3 => ?_)
    · have H := H.1 c3
      refine wq_aload_n (pc := 32) dH_next_32 rfl rfl ?_
      refine wq_iload_n (pc := 33) dH_next_33 rfl rfl ?_
      refine wq_iconst (pc := 34) dH_next_34 rfl ?_
      refine wq_iast (pc := 35) dH_next_35 sh_70 (by decide) s2.1 s2.2 ?_
      obtain ⟨s4, H⟩ := H
      refine wq_iinc (pc := 36) (lo' := [iR 26, iR 70, iI (x2 - 1)]) dH_next_36 rfl rfl (by rw [show wr (x2 + (-1)) = x2 - 1 from (Eq.trans (wr_eq (by omega) (by omega)) (by omega))]; rfl) ?_
      refine wq_goto (pc := 39) (tgt := 7) dH_next_39 (by decide) ?_
      exact H
    · have H := H.2 c3
      refine wq_aload_n (pc := 23) dH_next_23 rfl rfl ?_
      refine wq_iload_n (pc := 24) dH_next_24 rfl rfl ?_
      refine wq_dup2 (pc := 25) dH_next_25 rfl rfl ?_
      refine wq_iald (pc := 26) dH_next_26 sh_70 s2.1 s2.2 ?_
      refine wq_iconst (pc := 27) dH_next_27 rfl ?_
      refine wq_iadd (pc := 28) dH_next_28 ?_
      obtain ⟨s5, H⟩ := H
      refine wq_re (x := (wr (gI M 70 x2 + 1))) (y := (gI M 70 x2 + 1)) (Eq.trans (wr_eq (by omega) (by omega)) (by omega)) ?_
      refine wq_iast (pc := 29) dH_next_29 sh_70 (by decide) s2.1 s2.2 ?_
      refine wq_iconst (pc := 30) dH_next_30 rfl ?_
      refine wq_ireturn (pc := 31) dH_next_31 (Or.inr rfl) ?_
      exact H
set_option maxRecDepth 20000 in
theorem B_C_copyk_0 {M : Mm} {Q : Mm → Option Mv → Prop} (hS : RefOK M) (H : Q (sI (sI (cI (cI (cI (cI (cI M 21 0 50 0 60) 22 0 51 0 600) 23 0 52 0 10) 24 0 53 0 10) 25 0 54 0 10) 49 5 (gI M 20 5)) 49 6 (gI M 20 6)) none) : Wq 1 0 0 mC_copy 0 [iR 49, iR 20] [] M Q := by
  refine wq_aload_n (pc := 0) dC_copy_0 rfl rfl ?_
  refine wq_getR (pc := 1) (z := 0) (b := 21) dC_copy_1 fO_C_9 sh_20 rfl rfl (rf_20_0 hS) ?_
  refine wq_iconst (pc := 4) dC_copy_4 rfl ?_
  refine wq_aload_n (pc := 5) dC_copy_5 rfl rfl ?_
  refine wq_getR (pc := 6) (z := 0) (b := 50) dC_copy_6 fO_C_9 sh_49 rfl rfl (rf_49_0 hS) ?_
  refine wq_iconst (pc := 9) dC_copy_9 rfl ?_
  refine wq_bipush (pc := 10) dC_copy_10 rfl ?_
  refine wq_cpI (pc := 12) dC_copy_12 aC_C_35 (Or.inr ⟨sh_21, sh_50⟩) (by decide) (by decide) (by decide) (by decide) (by decide) (by decide) (by decide) rfl ?_
  refine wq_aload_n (pc := 15) dC_copy_15 rfl rfl ?_
  refine wq_getR (pc := 16) (z := 1) (b := 22) dC_copy_16 fO_C_15 sh_20 rfl rfl (rf_20_1 hS) ?_
  refine wq_iconst (pc := 19) dC_copy_19 rfl ?_
  refine wq_aload_n (pc := 20) dC_copy_20 rfl rfl ?_
  refine wq_getR (pc := 21) (z := 1) (b := 51) dC_copy_21 fO_C_15 sh_49 rfl rfl (rf_49_1 hS) ?_
  refine wq_iconst (pc := 24) dC_copy_24 rfl ?_
  refine wq_sipush (pc := 25) dC_copy_25 rfl ?_
  refine wq_cpI (pc := 28) dC_copy_28 aC_C_35 (Or.inr ⟨sh_22, sh_51⟩) (by decide) (by decide) (by decide) (by decide) (by decide) (by decide) (by decide) rfl ?_
  refine wq_aload_n (pc := 31) dC_copy_31 rfl rfl ?_
  refine wq_getR (pc := 32) (z := 2) (b := 23) dC_copy_32 fO_C_18 sh_20 rfl rfl (rf_20_2 hS) ?_
  refine wq_iconst (pc := 35) dC_copy_35 rfl ?_
  refine wq_aload_n (pc := 36) dC_copy_36 rfl rfl ?_
  refine wq_getR (pc := 37) (z := 2) (b := 52) dC_copy_37 fO_C_18 sh_49 rfl rfl (rf_49_2 hS) ?_
  refine wq_iconst (pc := 40) dC_copy_40 rfl ?_
  refine wq_bipush (pc := 41) dC_copy_41 rfl ?_
  refine wq_cpI (pc := 43) dC_copy_43 aC_C_35 (Or.inl ⟨sh_23, sh_52⟩) (by decide) (by decide) (by decide) (by decide) (by decide) (by decide) (by decide) rfl ?_
  refine wq_aload_n (pc := 46) dC_copy_46 rfl rfl ?_
  refine wq_getR (pc := 47) (z := 3) (b := 24) dC_copy_47 fO_C_22 sh_20 rfl rfl (rf_20_3 hS) ?_
  refine wq_iconst (pc := 50) dC_copy_50 rfl ?_
  refine wq_aload_n (pc := 51) dC_copy_51 rfl rfl ?_
  refine wq_getR (pc := 52) (z := 3) (b := 53) dC_copy_52 fO_C_22 sh_49 rfl rfl (rf_49_3 hS) ?_
  refine wq_iconst (pc := 55) dC_copy_55 rfl ?_
  refine wq_bipush (pc := 56) dC_copy_56 rfl ?_
  refine wq_cpI (pc := 58) dC_copy_58 aC_C_35 (Or.inl ⟨sh_24, sh_53⟩) (by decide) (by decide) (by decide) (by decide) (by decide) (by decide) (by decide) rfl ?_
  refine wq_aload_n (pc := 61) dC_copy_61 rfl rfl ?_
  refine wq_getR (pc := 62) (z := 4) (b := 25) dC_copy_62 fO_C_25 sh_20 rfl rfl (rf_20_4 hS) ?_
  refine wq_iconst (pc := 65) dC_copy_65 rfl ?_
  refine wq_aload_n (pc := 66) dC_copy_66 rfl rfl ?_
  refine wq_getR (pc := 67) (z := 4) (b := 54) dC_copy_67 fO_C_25 sh_49 rfl rfl (rf_49_4 hS) ?_
  refine wq_iconst (pc := 70) dC_copy_70 rfl ?_
  refine wq_bipush (pc := 71) dC_copy_71 rfl ?_
  refine wq_cpI (pc := 73) dC_copy_73 aC_C_35 (Or.inl ⟨sh_25, sh_54⟩) (by decide) (by decide) (by decide) (by decide) (by decide) (by decide) (by decide) rfl ?_
  refine wq_aload_n (pc := 76) dC_copy_76 rfl rfl ?_
  refine wq_aload_n (pc := 77) dC_copy_77 rfl rfl ?_
  refine wq_getI (pc := 78) (z := 5) dC_copy_78 fO_C_28 sh_20 rfl rfl ?_
  refine wq_re (x := (gI (cI (cI (cI (cI (cI M 21 0 50 0 60) 22 0 51 0 600) 23 0 52 0 10) 24 0 53 0 10) 25 0 54 0 10) 20 5)) (y := (gI M 20 5)) rfl ?_
  refine wq_putI (pc := 81) (z := 5) dC_copy_81 fW_C_28 sh_49 rfl rfl ?_
  refine wq_aload_n (pc := 84) dC_copy_84 rfl rfl ?_
  refine wq_aload_n (pc := 85) dC_copy_85 rfl rfl ?_
  refine wq_getI (pc := 86) (z := 6) dC_copy_86 fO_C_32 sh_20 rfl rfl ?_
  refine wq_re (x := (gI (sI (cI (cI (cI (cI (cI M 21 0 50 0 60) 22 0 51 0 600) 23 0 52 0 10) 24 0 53 0 10) 25 0 54 0 10) 49 5 (gI M 20 5)) 20 6)) (y := (gI M 20 6)) rfl ?_
  refine wq_putI (pc := 89) (z := 6) dC_copy_89 fW_C_32 sh_49 rfl rfl ?_
  refine wq_return (pc := 92) dC_copy_92 trivial ?_
  exact H
