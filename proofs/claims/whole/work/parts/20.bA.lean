set_option maxRecDepth 20000 in
theorem B_D_within_0 {x0 x1 x2 : Int} {M : Mm} {Q : Mm → Option Mv → Prop} (H : ((x0 < x1 → Q M (some (vI 0))) ∧ (¬ x0 < x1 → ((x2 < x0 → Q M (some (vI 0))) ∧ (¬ x2 < x0 → Q M (some (vI 1))))))) : Wq 1 0 0 mD_within 0 [iI x0, iI x1, iI x2] [] M Q := by
  refine wq_iload_n (pc := 0) dD_within_0 rfl rfl ?_
  refine wq_iload_n (pc := 1) dD_within_1 rfl rfl ?_
  refine wq_icmp_lt (pc := 2) (tgt := 14) dD_within_2 (by decide) (fun c1 => ?_) (fun c1 => ?_)
  · have H := H.1 c1
    refine wq_iconst (pc := 14) dD_within_14 rfl ?_
    refine wq_ireturn (pc := 15) dD_within_15 (Or.inl rfl) ?_
    exact H
  · have H := H.2 c1
    refine wq_iload_n (pc := 5) dD_within_5 rfl rfl ?_
    refine wq_iload_n (pc := 6) dD_within_6 rfl rfl ?_
    refine wq_icmp_gt (pc := 7) (tgt := 14) dD_within_7 (by decide) (fun c2 => ?_) (fun c2 => ?_)
    · have H := H.1 c2
      refine wq_iconst (pc := 14) dD_within_14 rfl ?_
      refine wq_ireturn (pc := 15) dD_within_15 (Or.inl rfl) ?_
      exact H
    · have H := H.2 c2
      refine wq_iconst (pc := 10) dD_within_10 rfl ?_
      refine wq_goto (pc := 11) (tgt := 15) dD_within_11 (by decide) ?_
      refine wq_ireturn (pc := 15) dD_within_15 (Or.inr rfl) ?_
      exact H
set_option maxRecDepth 20000 in
theorem B_D_holds_0 {x0 x1 : Int} {M : Mm} {Q : Mm → Option Mv → Prop} (H : ((bAnd (bShr x0 x1) 1 = 0 → Q M (some (vI 0))) ∧ (¬ bAnd (bShr x0 x1) 1 = 0 → Q M (some (vI 1))))) : Wq 1 0 0 mD_holds 0 [iI x0, iI x1] [] M Q := by
  refine wq_iload_n (pc := 0) dD_holds_0 rfl rfl ?_
  refine wq_iload_n (pc := 1) dD_holds_1 rfl rfl ?_
  refine wq_ishr (pc := 2) dD_holds_2 ?_
  refine wq_iconst (pc := 3) dD_holds_3 rfl ?_
  refine wq_iand (pc := 4) dD_holds_4 ?_
  refine wq_if_eq (pc := 5) (tgt := 12) dD_holds_5 (by decide) (fun c1 => ?_) (fun c1 => ?_)
  · have H := H.1 c1
    refine wq_iconst (pc := 12) dD_holds_12 rfl ?_
    refine wq_ireturn (pc := 13) dD_holds_13 (Or.inl rfl) ?_
    exact H
  · have H := H.2 c1
    refine wq_iconst (pc := 8) dD_holds_8 rfl ?_
    refine wq_goto (pc := 9) (tgt := 13) dD_holds_9 (by decide) ?_
    refine wq_ireturn (pc := 13) dD_holds_13 (Or.inr rfl) ?_
    exact H
set_option maxRecDepth 20000 in
theorem B_D_isUse_0 {x0 : Int} {M : Mm} {Q : Mm → Option Mv → Prop} (H : ((x0 = 0 → Q M (some (vI 1))) ∧ (¬ x0 = 0 → ((¬ x0 = 1 → Q M (some (vI 0))) ∧ (x0 = 1 → Q M (some (vI 1))))))) : Wq 1 0 0 mD_isUse 0 [iI x0] [] M Q := by
  refine wq_iload_n (pc := 0) dD_isUse_0 rfl rfl ?_
  refine wq_if_eq (pc := 1) (tgt := 9) dD_isUse_1 (by decide) (fun c1 => ?_) (fun c1 => ?_)
  · have H := H.1 c1
    refine wq_iconst (pc := 9) dD_isUse_9 rfl ?_
    refine wq_goto (pc := 10) (tgt := 14) dD_isUse_10 (by decide) ?_
    refine wq_ireturn (pc := 14) dD_isUse_14 (Or.inr rfl) ?_
    exact H
  · have H := H.2 c1
    refine wq_iload_n (pc := 4) dD_isUse_4 rfl rfl ?_
    refine wq_iconst (pc := 5) dD_isUse_5 rfl ?_
    refine wq_icmp_ne (pc := 6) (tgt := 13) dD_isUse_6 (by decide) (fun c2 => ?_) (fun c2 => ?_)
    · have H := H.1 c2
      refine wq_iconst (pc := 13) dD_isUse_13 rfl ?_
      refine wq_ireturn (pc := 14) dD_isUse_14 (Or.inl rfl) ?_
      exact H
    · have H := H.2 c2
      refine wq_iconst (pc := 9) dD_isUse_9 rfl ?_
      refine wq_goto (pc := 10) (tgt := 14) dD_isUse_10 (by decide) ?_
      refine wq_ireturn (pc := 14) dD_isUse_14 (Or.inr rfl) ?_
      exact H
set_option maxRecDepth 20000 in
theorem B_W_has_0 {x1 : Int} {M : Mm} {Q : Mm → Option Mv → Prop} (H : ((x1 < 0 → Q M (some (vI 0))) ∧ (¬ x1 < 0 → ((gI M 5 6 ≤ x1 → Q M (some (vI 0))) ∧ (¬ gI M 5 6 ≤ x1 → Q M (some (vI 1))))))) : Wq 1 0 0 mW_has 0 [iR 5, iI x1] [] M Q := by
  refine wq_iload_n (pc := 0) dW_has_0 rfl rfl ?_
  refine wq_if_lt (pc := 1) (tgt := 16) dW_has_1 (by decide) (fun c1 => ?_) (fun c1 => ?_)
  · have H := H.1 c1
    refine wq_iconst (pc := 16) dW_has_16 rfl ?_
    refine wq_ireturn (pc := 17) dW_has_17 (Or.inl rfl) ?_
    exact H
  · have H := H.2 c1
    refine wq_iload_n (pc := 4) dW_has_4 rfl rfl ?_
    refine wq_aload_n (pc := 5) dW_has_5 rfl rfl ?_
    refine wq_getI (pc := 6) (z := 6) dW_has_6 fO_W_30 sh_5 rfl rfl ?_
    refine wq_icmp_ge (pc := 9) (tgt := 16) dW_has_9 (by decide) (fun c2 => ?_) (fun c2 => ?_)
    · have H := H.1 c2
      refine wq_iconst (pc := 16) dW_has_16 rfl ?_
      refine wq_ireturn (pc := 17) dW_has_17 (Or.inl rfl) ?_
      exact H
    · have H := H.2 c2
      refine wq_iconst (pc := 12) dW_has_12 rfl ?_
      refine wq_goto (pc := 13) (tgt := 17) dW_has_13 (by decide) ?_
      refine wq_ireturn (pc := 17) dW_has_17 (Or.inr rfl) ?_
      exact H
set_option maxRecDepth 20000 in
theorem B_E_has_0 {x1 : Int} {M : Mm} {Q : Mm → Option Mv → Prop} (H : ((x1 < 0 → Q M (some (vI 0))) ∧ (¬ x1 < 0 → ((gI M 12 7 ≤ x1 → Q M (some (vI 0))) ∧ (¬ gI M 12 7 ≤ x1 → Q M (some (vI 1))))))) : Wq 1 0 0 mE_has 0 [iR 12, iI x1] [] M Q := by
  refine wq_iload_n (pc := 0) dE_has_0 rfl rfl ?_
  refine wq_if_lt (pc := 1) (tgt := 16) dE_has_1 (by decide) (fun c1 => ?_) (fun c1 => ?_)
  · have H := H.1 c1
    refine wq_iconst (pc := 16) dE_has_16 rfl ?_
    refine wq_ireturn (pc := 17) dE_has_17 (Or.inl rfl) ?_
    exact H
  · have H := H.2 c1
    refine wq_iload_n (pc := 4) dE_has_4 rfl rfl ?_
    refine wq_aload_n (pc := 5) dE_has_5 rfl rfl ?_
    refine wq_getI (pc := 6) (z := 7) dE_has_6 fO_E_33 sh_12 rfl rfl ?_
    refine wq_icmp_ge (pc := 9) (tgt := 16) dE_has_9 (by decide) (fun c2 => ?_) (fun c2 => ?_)
    · have H := H.1 c2
      refine wq_iconst (pc := 16) dE_has_16 rfl ?_
      refine wq_ireturn (pc := 17) dE_has_17 (Or.inl rfl) ?_
      exact H
    · have H := H.2 c2
      refine wq_iconst (pc := 12) dE_has_12 rfl ?_
      refine wq_goto (pc := 13) (tgt := 17) dE_has_13 (by decide) ?_
      refine wq_ireturn (pc := 17) dE_has_17 (Or.inr rfl) ?_
      exact H
set_option maxRecDepth 20000 in
theorem B_E_hold_0 {x1 : Int} {M : Mm} {Q : Mm → Option Mv → Prop} (H : ((x1 < 0 → Q M (some (vI 0))) ∧ (¬ x1 < 0 → ((¬ bShr x1 (gI M 12 7) = 0 → Q M (some (vI 0))) ∧ (bShr x1 (gI M 12 7) = 0 → Q M (some (vI 1))))))) : Wq 1 0 0 mE_hold 0 [iR 12, iI x1] [] M Q := by
  refine wq_iload_n (pc := 0) dE_hold_0 rfl rfl ?_
  refine wq_if_lt (pc := 1) (tgt := 17) dE_hold_1 (by decide) (fun c1 => ?_) (fun c1 => ?_)
  · have H := H.1 c1
    refine wq_iconst (pc := 17) dE_hold_17 rfl ?_
    refine wq_ireturn (pc := 18) dE_hold_18 (Or.inl rfl) ?_
    exact H
  · have H := H.2 c1
    refine wq_iload_n (pc := 4) dE_hold_4 rfl rfl ?_
    refine wq_aload_n (pc := 5) dE_hold_5 rfl rfl ?_
    refine wq_getI (pc := 6) (z := 7) dE_hold_6 fO_E_33 sh_12 rfl rfl ?_
    refine wq_ishr (pc := 9) dE_hold_9 ?_
    refine wq_if_ne (pc := 10) (tgt := 17) dE_hold_10 (by decide) (fun c2 => ?_) (fun c2 => ?_)
    · have H := H.1 c2
      refine wq_iconst (pc := 17) dE_hold_17 rfl ?_
      refine wq_ireturn (pc := 18) dE_hold_18 (Or.inl rfl) ?_
      exact H
    · have H := H.2 c2
      refine wq_iconst (pc := 13) dE_hold_13 rfl ?_
      refine wq_goto (pc := 14) (tgt := 18) dE_hold_14 (by decide) ?_
      refine wq_ireturn (pc := 18) dE_hold_18 (Or.inr rfl) ?_
      exact H
set_option maxRecDepth 20000 in
theorem B_M_within_0 {x0 x2 x4 : Int} {M : Mm} {Q : Mm → Option Mv → Prop} (H : ((lCmp x0 x2 < 0 → Q M (some (vI 0))) ∧ (¬ lCmp x0 x2 < 0 → ((0 < lCmp x0 x4 → Q M (some (vI 0))) ∧ (¬ 0 < lCmp x0 x4 → Q M (some (vI 1))))))) : Wq 1 0 0 mM_within 0 [iL x0, none, iL x2, none, iL x4, none] [] M Q := by
  refine wq_lload_n (pc := 0) dM_within_0 rfl rfl ?_
  refine wq_lload_n (pc := 1) dM_within_1 rfl rfl ?_
  refine wq_lcmp (pc := 2) dM_within_2 ?_
  refine wq_if_lt (pc := 3) (tgt := 17) dM_within_3 (by decide) (fun c1 => ?_) (fun c1 => ?_)
  · have H := H.1 c1
    refine wq_iconst (pc := 17) dM_within_17 rfl ?_
    refine wq_ireturn (pc := 18) dM_within_18 (Or.inl rfl) ?_
    exact H
  · have H := H.2 c1
    refine wq_lload_n (pc := 6) dM_within_6 rfl rfl ?_
    refine wq_lload (pc := 7) dM_within_7 rfl ?_
    refine wq_lcmp (pc := 9) dM_within_9 ?_
    refine wq_if_gt (pc := 10) (tgt := 17) dM_within_10 (by decide) (fun c2 => ?_) (fun c2 => ?_)
    · have H := H.1 c2
      refine wq_iconst (pc := 17) dM_within_17 rfl ?_
      refine wq_ireturn (pc := 18) dM_within_18 (Or.inl rfl) ?_
      exact H
    · have H := H.2 c2
      refine wq_iconst (pc := 13) dM_within_13 rfl ?_
      refine wq_goto (pc := 14) (tgt := 18) dM_within_14 (by decide) ?_
      refine wq_ireturn (pc := 18) dM_within_18 (Or.inr rfl) ?_
      exact H
set_option maxRecDepth 20000 in
theorem B_M_has_0 {x0 x1 : Int} {M : Mm} {Q : Mm → Option Mv → Prop} (H : ((¬ bAnd (bShr x0 x1) 1 = 1 → Q M (some (vI 0))) ∧ (bAnd (bShr x0 x1) 1 = 1 → Q M (some (vI 1))))) : Wq 1 0 0 mM_has 0 [iI x0, iI x1] [] M Q := by
  refine wq_iload_n (pc := 0) dM_has_0 rfl rfl ?_
  refine wq_iload_n (pc := 1) dM_has_1 rfl rfl ?_
  refine wq_ishr (pc := 2) dM_has_2 ?_
  refine wq_iconst (pc := 3) dM_has_3 rfl ?_
  refine wq_iand (pc := 4) dM_has_4 ?_
  refine wq_iconst (pc := 5) dM_has_5 rfl ?_
  refine wq_icmp_ne (pc := 6) (tgt := 13) dM_has_6 (by decide) (fun c1 => ?_) (fun c1 => ?_)
  · have H := H.1 c1
    refine wq_iconst (pc := 13) dM_has_13 rfl ?_
    refine wq_ireturn (pc := 14) dM_has_14 (Or.inl rfl) ?_
    exact H
  · have H := H.2 c1
    refine wq_iconst (pc := 9) dM_has_9 rfl ?_
    refine wq_goto (pc := 10) (tgt := 14) dM_has_10 (by decide) ?_
    refine wq_ireturn (pc := 14) dM_has_14 (Or.inr rfl) ?_
    exact H
set_option maxRecDepth 20000 in
theorem B_M_isWidth_0 {x0 : Int} {M : Mm} {Q : Mm → Option Mv → Prop} (H : ((x0 = 8 → Q M (some (vI 1))) ∧ (¬ x0 = 8 → ((x0 = 16 → Q M (some (vI 1))) ∧ (¬ x0 = 16 → ((¬ x0 = 32 → Q M (some (vI 0))) ∧ (x0 = 32 → Q M (some (vI 1))))))))) : Wq 1 0 0 mM_isWidth 0 [iI x0] [] M Q := by
  refine wq_iload_n (pc := 0) dM_isWidth_0 rfl rfl ?_
  refine wq_bipush (pc := 1) dM_isWidth_1 rfl ?_
  refine wq_icmp_eq (pc := 3) (tgt := 18) dM_isWidth_3 (by decide) (fun c1 => ?_) (fun c1 => ?_)
  · have H := H.1 c1
    refine wq_iconst (pc := 18) dM_isWidth_18 rfl ?_
    refine wq_goto (pc := 19) (tgt := 23) dM_isWidth_19 (by decide) ?_
    refine wq_ireturn (pc := 23) dM_isWidth_23 (Or.inr rfl) ?_
    exact H
  · have H := H.2 c1
    refine wq_iload_n (pc := 6) dM_isWidth_6 rfl rfl ?_
    refine wq_bipush (pc := 7) dM_isWidth_7 rfl ?_
    refine wq_icmp_eq (pc := 9) (tgt := 18) dM_isWidth_9 (by decide) (fun c2 => ?_) (fun c2 => ?_)
    · have H := H.1 c2
      refine wq_iconst (pc := 18) dM_isWidth_18 rfl ?_
      refine wq_goto (pc := 19) (tgt := 23) dM_isWidth_19 (by decide) ?_
      refine wq_ireturn (pc := 23) dM_isWidth_23 (Or.inr rfl) ?_
      exact H
    · have H := H.2 c2
      refine wq_iload_n (pc := 12) dM_isWidth_12 rfl rfl ?_
      refine wq_bipush (pc := 13) dM_isWidth_13 rfl ?_
      refine wq_icmp_ne (pc := 15) (tgt := 22) dM_isWidth_15 (by decide) (fun c3 => ?_) (fun c3 => ?_)
      · have H := H.1 c3
        refine wq_iconst (pc := 22) dM_isWidth_22 rfl ?_
        refine wq_ireturn (pc := 23) dM_isWidth_23 (Or.inl rfl) ?_
        exact H
      · have H := H.2 c3
        refine wq_iconst (pc := 18) dM_isWidth_18 rfl ?_
        refine wq_goto (pc := 19) (tgt := 23) dM_isWidth_19 (by decide) ?_
        refine wq_ireturn (pc := 23) dM_isWidth_23 (Or.inr rfl) ?_
        exact H
set_option maxRecDepth 20000 in
theorem B_M_kindOf_0 {x1 : Int} {M : Mm} {Q : Mm → Option Mv → Prop} (hS : RefOK M) (H : ((0 ≤ 10 + 3 * x1 ∧ 10 + 3 * x1 < 1993) ∧ Q M (some (vI (gI M 81 (10 + 3 * x1)))))) : Wq 1 0 0 mM_kindOf 0 [iR 80, iI x1] [] M Q := by
  obtain ⟨s1, H⟩ := H
  refine wq_aload_n (pc := 0) dM_kindOf_0 rfl rfl ?_
  refine wq_getR (pc := 1) (z := 0) (b := 81) dM_kindOf_1 fO_M_9 sh_80 rfl rfl (rf_80_0 hS) ?_
  refine wq_bipush (pc := 4) dM_kindOf_4 rfl ?_
  refine wq_iconst (pc := 6) dM_kindOf_6 rfl ?_
  refine wq_iload_n (pc := 7) dM_kindOf_7 rfl rfl ?_
  refine wq_imul (pc := 8) dM_kindOf_8 ?_
  refine wq_iadd (pc := 9) dM_kindOf_9 ?_
  refine wq_iconst (pc := 10) dM_kindOf_10 rfl ?_
  refine wq_iadd (pc := 11) dM_kindOf_11 ?_
  refine wq_re (x := (wr (wr (10 + wr (3 * x1)) + 0))) (y := (10 + 3 * x1)) (by (try simp only [wr_al, wr_ar, wr_sl, wr_sr, wr_ml, wr_mr, wr_nn, wr_ww]); exact Eq.trans (wr_eq (by omega) (by omega)) (by omega)) ?_
  refine wq_iald (pc := 12) dM_kindOf_12 sh_81 s1.1 s1.2 ?_
  refine wq_ireturn (pc := 13) dM_kindOf_13 trivial ?_
  exact H
set_option maxRecDepth 20000 in
theorem B_M_longOf_0 {x1 : Int} {M : Mm} {Q : Mm → Option Mv → Prop} (hS : RefOK M) (H : ((0 ≤ 11 + 3 * x1 ∧ 11 + 3 * x1 < 1993) ∧ Q M (some (vI (gI M 81 (11 + 3 * x1)))))) : Wq 1 0 0 mM_longOf 0 [iR 80, iI x1] [] M Q := by
  obtain ⟨s1, H⟩ := H
  refine wq_aload_n (pc := 0) dM_longOf_0 rfl rfl ?_
  refine wq_getR (pc := 1) (z := 0) (b := 81) dM_longOf_1 fO_M_9 sh_80 rfl rfl (rf_80_0 hS) ?_
  refine wq_bipush (pc := 4) dM_longOf_4 rfl ?_
  refine wq_iconst (pc := 6) dM_longOf_6 rfl ?_
  refine wq_iload_n (pc := 7) dM_longOf_7 rfl rfl ?_
  refine wq_imul (pc := 8) dM_longOf_8 ?_
  refine wq_iadd (pc := 9) dM_longOf_9 ?_
  refine wq_iconst (pc := 10) dM_longOf_10 rfl ?_
  refine wq_iadd (pc := 11) dM_longOf_11 ?_
  refine wq_re (x := (wr (wr (10 + wr (3 * x1)) + 1))) (y := (11 + 3 * x1)) (by (try simp only [wr_al, wr_ar, wr_sl, wr_sr, wr_ml, wr_mr, wr_nn, wr_ww]); exact Eq.trans (wr_eq (by omega) (by omega)) (by omega)) ?_
  refine wq_iald (pc := 12) dM_longOf_12 sh_81 s1.1 s1.2 ?_
  refine wq_ireturn (pc := 13) dM_longOf_13 trivial ?_
  exact H
set_option maxRecDepth 20000 in
theorem B_M_event2_0 {x1 x2 : Int} {M : Mm} {Q : Mm → Option Mv → Prop} (hS : RefOK M) (H : ((0 ≤ 148 + 7 * x1 + x2 ∧ 148 + 7 * x1 + x2 < 1993) ∧ Q M (some (vI (gI M 81 (148 + 7 * x1 + x2)))))) : Wq 1 0 0 mM_event2 0 [iR 80, iI x1, iI x2] [] M Q := by
  obtain ⟨s1, H⟩ := H
  refine wq_aload_n (pc := 0) dM_event2_0 rfl rfl ?_
  refine wq_getR (pc := 1) (z := 0) (b := 81) dM_event2_1 fO_M_9 sh_80 rfl rfl (rf_80_0 hS) ?_
  refine wq_sipush (pc := 4) dM_event2_4 rfl ?_
  refine wq_bipush (pc := 7) dM_event2_7 rfl ?_
  refine wq_iload_n (pc := 9) dM_event2_9 rfl rfl ?_
  refine wq_imul (pc := 10) dM_event2_10 ?_
  refine wq_iadd (pc := 11) dM_event2_11 ?_
  refine wq_iload_n (pc := 12) dM_event2_12 rfl rfl ?_
  refine wq_iadd (pc := 13) dM_event2_13 ?_
  refine wq_re (x := (wr (wr (148 + wr (7 * x1)) + x2))) (y := (148 + 7 * x1 + x2)) (by (try simp only [wr_al, wr_ar, wr_sl, wr_sr, wr_ml, wr_mr, wr_nn, wr_ww]); exact Eq.trans (wr_eq (by omega) (by omega)) (by omega)) ?_
  refine wq_iald (pc := 14) dM_event2_14 sh_81 s1.1 s1.2 ?_
  refine wq_ireturn (pc := 15) dM_event2_15 trivial ?_
  exact H
set_option maxRecDepth 20000 in
theorem B_M_above_0 {x0 : Int} {M : Mm} {Q : Mm → Option Mv → Prop} (H : ((x0 = 3 → Q M (some (vI 2))) ∧ (¬ x0 = 3 → ((¬ x0 = 5 → ((¬ x0 = 0 → Q M (some (vI 0))) ∧ (x0 = 0 → Q M (some (vI (-1)))))) ∧ (x0 = 5 → Q M (some (vI 2))))))) : Wq 1 0 0 mM_above 0 [iI x0] [] M Q := by
  refine wq_iload_n (pc := 0) dM_above_0 rfl rfl ?_
  refine wq_iconst (pc := 1) dM_above_1 rfl ?_
  refine wq_icmp_eq (pc := 2) (tgt := 10) dM_above_2 (by decide) (fun c1 => ?_) (fun c1 => ?_)
  · have H := H.1 c1
    refine wq_iconst (pc := 10) dM_above_10 rfl ?_
    refine wq_goto (pc := 11) (tgt := 23) dM_above_11 (by decide) ?_
    refine wq_ireturn (pc := 23) dM_above_23 trivial ?_
    exact H
  · have H := H.2 c1
    refine wq_iload_n (pc := 5) dM_above_5 rfl rfl ?_
    refine wq_iconst (pc := 6) dM_above_6 rfl ?_
    refine wq_icmp_ne (pc := 7) (tgt := 14) dM_above_7 (by decide) (fun c2 => ?_) (fun c2 => ?_)
    · have H := H.1 c2
      refine wq_iload_n (pc := 14) dM_above_14 rfl rfl ?_
      refine wq_if_ne (pc := 15) (tgt := 22) dM_above_15 (by decide) (fun c3 => ?_) (fun c3 => ?_)
      · have H := H.1 c3
        refine wq_iconst (pc := 22) dM_above_22 rfl ?_
        refine wq_ireturn (pc := 23) dM_above_23 trivial ?_
        exact H
      · have H := H.2 c3
        refine wq_iconst (pc := 18) dM_above_18 rfl ?_
        refine wq_goto (pc := 19) (tgt := 23) dM_above_19 (by decide) ?_
        refine wq_ireturn (pc := 23) dM_above_23 trivial ?_
        exact H
    · have H := H.2 c2
      refine wq_iconst (pc := 10) dM_above_10 rfl ?_
      refine wq_goto (pc := 11) (tgt := 23) dM_above_11 (by decide) ?_
      refine wq_ireturn (pc := 23) dM_above_23 trivial ?_
      exact H
set_option maxRecDepth 20000 in
theorem B_M_finding_0 {x1 : Int} {M : Mm} {Q : Mm → Option Mv → Prop} (hS : RefOK M) (H : ((0 ≤ wr ((-1000000) - x1) ∧ wr ((-1000000) - x1) < 6) ∧ Q (sI M 83 (wr ((-1000000) - x1)) (wr (gI M 83 (wr ((-1000000) - x1)) + 1))) (some (vI x1)))) : Wq 1 0 0 mM_finding 0 [iR 80, iI x1] [] M Q := by
  obtain ⟨s1, H⟩ := H
  refine wq_aload_n (pc := 0) dM_finding_0 rfl rfl ?_
  refine wq_getR (pc := 1) (z := 3) (b := 83) dM_finding_1 fO_M_16 sh_80 rfl rfl (rf_80_3 hS) ?_
  refine wq_ldc (pc := 4) (z := (-1000000)) dM_finding_4 kO_M_67 (by decide) ?_
  refine wq_iload_n (pc := 6) dM_finding_6 rfl rfl ?_
  refine wq_isub (pc := 7) dM_finding_7 ?_
  refine wq_dup2 (pc := 8) dM_finding_8 rfl rfl ?_
  refine wq_iald (pc := 9) dM_finding_9 sh_83 s1.1 s1.2 ?_
  refine wq_iconst (pc := 10) dM_finding_10 rfl ?_
  refine wq_iadd (pc := 11) dM_finding_11 ?_
  refine wq_iast (pc := 12) dM_finding_12 sh_83 (by decide) s1.1 s1.2 ?_
  refine wq_iload_n (pc := 13) dM_finding_13 rfl rfl ?_
  refine wq_ireturn (pc := 14) dM_finding_14 trivial ?_
  exact H
