set_option maxRecDepth 20000 in
theorem B_D_isDay_0 {x0 : Int} {M : Mm} {Q : Mm → Option Mv → Prop} (H : ((0 ≤ x0 ∧ x0 ≤ 900 → Q M (some (vI 1))) ∧ (¬ (0 ≤ x0 ∧ x0 ≤ 900) → Q M (some (vI 0))))) : Wq 2 0 0 mD_isDay 0 [iI x0] [] M Q := by
  refine wq_iload_n (pc := 0) dD_isDay_0 rfl rfl ?_
  refine wq_iconst (pc := 1) dD_isDay_1 rfl ?_
  refine wq_sipush (pc := 2) dD_isDay_2 rfl ?_
  refine wq_callS (d' := 1) (pc := 5) (as := [vI x0, vI 0, vI 900]) (rest := []) (lo' := [iI x0, iI 0, iI 900]) dD_isDay_5 mO_D_within lS_D_65 rfl rfl rfl rfl rfl rfl ?_
  refine sp_D_within (fun c1 => ?_) (fun c1 => ?_)
  · have H := H.1 c1
    show Wq 2 0 0 mD_isDay 8 [iI x0] [vI 1] M _
    refine wq_ireturn (pc := 8) dD_isDay_8 (Or.inr rfl) ?_
    exact H
  · have H := H.2 c1
    show Wq 2 0 0 mD_isDay 8 [iI x0] [vI 0] M _
    refine wq_ireturn (pc := 8) dD_isDay_8 (Or.inl rfl) ?_
    exact H
set_option maxRecDepth 20000 in
theorem B_D_isKind_0 {x0 : Int} {M : Mm} {Q : Mm → Option Mv → Prop} (H : ((0 ≤ x0 ∧ x0 ≤ 5 → Q M (some (vI 1))) ∧ (¬ (0 ≤ x0 ∧ x0 ≤ 5) → Q M (some (vI 0))))) : Wq 2 0 0 mD_isKind 0 [iI x0] [] M Q := by
  refine wq_iload_n (pc := 0) dD_isKind_0 rfl rfl ?_
  refine wq_iconst (pc := 1) dD_isKind_1 rfl ?_
  refine wq_iconst (pc := 2) dD_isKind_2 rfl ?_
  refine wq_callS (d' := 1) (pc := 3) (as := [vI x0, vI 0, vI 5]) (rest := []) (lo' := [iI x0, iI 0, iI 5]) dD_isKind_3 mO_D_within lS_D_65 rfl rfl rfl rfl rfl rfl ?_
  refine sp_D_within (fun c1 => ?_) (fun c1 => ?_)
  · have H := H.1 c1
    show Wq 2 0 0 mD_isKind 6 [iI x0] [vI 1] M _
    refine wq_ireturn (pc := 6) dD_isKind_6 (Or.inr rfl) ?_
    exact H
  · have H := H.2 c1
    show Wq 2 0 0 mD_isKind 6 [iI x0] [vI 0] M _
    refine wq_ireturn (pc := 6) dD_isKind_6 (Or.inl rfl) ?_
    exact H
set_option maxRecDepth 20000 in
theorem B_D_isCause_0 {x0 : Int} {M : Mm} {Q : Mm → Option Mv → Prop} (H : ((0 ≤ x0 ∧ x0 ≤ 3 → Q M (some (vI 1))) ∧ (¬ (0 ≤ x0 ∧ x0 ≤ 3) → Q M (some (vI 0))))) : Wq 2 0 0 mD_isCause 0 [iI x0] [] M Q := by
  refine wq_iload_n (pc := 0) dD_isCause_0 rfl rfl ?_
  refine wq_iconst (pc := 1) dD_isCause_1 rfl ?_
  refine wq_iconst (pc := 2) dD_isCause_2 rfl ?_
  refine wq_callS (d' := 1) (pc := 3) (as := [vI x0, vI 0, vI 3]) (rest := []) (lo' := [iI x0, iI 0, iI 3]) dD_isCause_3 mO_D_within lS_D_65 rfl rfl rfl rfl rfl rfl ?_
  refine sp_D_within (fun c1 => ?_) (fun c1 => ?_)
  · have H := H.1 c1
    show Wq 2 0 0 mD_isCause 6 [iI x0] [vI 1] M _
    refine wq_ireturn (pc := 6) dD_isCause_6 (Or.inr rfl) ?_
    exact H
  · have H := H.2 c1
    show Wq 2 0 0 mD_isCause 6 [iI x0] [vI 0] M _
    refine wq_ireturn (pc := 6) dD_isCause_6 (Or.inl rfl) ?_
    exact H
set_option maxRecDepth 20000 in
theorem B_D_isSheet_0 {x0 : Int} {M : Mm} {Q : Mm → Option Mv → Prop} (H : ((0 ≤ x0 ∧ x0 ≤ 3 → Q M (some (vI 1))) ∧ (¬ (0 ≤ x0 ∧ x0 ≤ 3) → Q M (some (vI 0))))) : Wq 2 0 0 mD_isSheet 0 [iI x0] [] M Q := by
  refine wq_iload_n (pc := 0) dD_isSheet_0 rfl rfl ?_
  refine wq_iconst (pc := 1) dD_isSheet_1 rfl ?_
  refine wq_iconst (pc := 2) dD_isSheet_2 rfl ?_
  refine wq_callS (d' := 1) (pc := 3) (as := [vI x0, vI 0, vI 3]) (rest := []) (lo' := [iI x0, iI 0, iI 3]) dD_isSheet_3 mO_D_within lS_D_65 rfl rfl rfl rfl rfl rfl ?_
  refine sp_D_within (fun c1 => ?_) (fun c1 => ?_)
  · have H := H.1 c1
    show Wq 2 0 0 mD_isSheet 6 [iI x0] [vI 1] M _
    refine wq_ireturn (pc := 6) dD_isSheet_6 (Or.inr rfl) ?_
    exact H
  · have H := H.2 c1
    show Wq 2 0 0 mD_isSheet 6 [iI x0] [vI 0] M _
    refine wq_ireturn (pc := 6) dD_isSheet_6 (Or.inl rfl) ?_
    exact H
set_option maxRecDepth 20000 in
theorem B_D_finding_0 {x1 : Int} {M : Mm} {Q : Mm → Option Mv → Prop} (hS : RefOK M) (H : ((1 ≤ wr ((-1000000) - x1) ∧ wr ((-1000000) - x1) ≤ 5 → ((0 ≤ wr ((-1000000) - x1) ∧ wr ((-1000000) - x1) < 6) ∧ Q (sI M 69 (wr ((-1000000) - x1)) (wr (gI M 69 (wr ((-1000000) - x1)) + 1))) (some (vI x1)))) ∧ (¬ (1 ≤ wr ((-1000000) - x1) ∧ wr ((-1000000) - x1) ≤ 5) → Q M (some (vI x1))))) : Wq 2 0 0 mD_finding 0 [iR 0, iI x1, none] [] M Q := by
  refine wq_ldcw (pc := 0) (z := (-1000000)) dD_finding_0 kO_D_344 (by decide) ?_
  refine wq_iload_n (pc := 3) dD_finding_3 rfl rfl ?_
  refine wq_isub (pc := 4) dD_finding_4 ?_
  refine wq_istore_n (pc := 5) (lo' := [iR 0, iI x1, iI (wr ((-1000000) - x1))]) dD_finding_5 rfl rfl rfl ?_
  refine wq_iload_n (pc := 6) dD_finding_6 rfl rfl ?_
  refine wq_iconst (pc := 7) dD_finding_7 rfl ?_
  refine wq_iconst (pc := 8) dD_finding_8 rfl ?_
  refine wq_callS (d' := 1) (pc := 9) (as := [vI (wr ((-1000000) - x1)), vI 1, vI 5]) (rest := []) (lo' := [iI (wr ((-1000000) - x1)), iI 1, iI 5]) dD_finding_9 mO_D_within lS_D_65 rfl rfl rfl rfl rfl rfl ?_
  refine sp_D_within (fun c1 => ?_) (fun c1 => ?_)
  · have H := H.1 c1
    show Wq 2 0 0 mD_finding 12 [iR 0, iI x1, iI (wr ((-1000000) - x1))] [vI 1] M _
    obtain ⟨s2, H⟩ := H
    refine wq_if_eq (pc := 12) (tgt := 25) dD_finding_12 (by decide) (fun q => absurd q (by decide)) (fun _ => ?_)
    refine wq_aload_n (pc := 15) dD_finding_15 rfl rfl ?_
    refine wq_getR (pc := 16) (z := 6) (b := 69) dD_finding_16 fO_D_46 sh_0 rfl rfl (rf_0_6 hS) ?_
    refine wq_iload_n (pc := 19) dD_finding_19 rfl rfl ?_
    refine wq_dup2 (pc := 20) dD_finding_20 rfl rfl ?_
    refine wq_iald (pc := 21) dD_finding_21 sh_69 s2.1 s2.2 ?_
    refine wq_iconst (pc := 22) dD_finding_22 rfl ?_
    refine wq_iadd (pc := 23) dD_finding_23 ?_
    refine wq_iast (pc := 24) dD_finding_24 sh_69 (by decide) s2.1 s2.2 ?_
    refine wq_iload_n (pc := 25) dD_finding_25 rfl rfl ?_
    refine wq_ireturn (pc := 26) dD_finding_26 trivial ?_
    exact H
  · have H := H.2 c1
    show Wq 2 0 0 mD_finding 12 [iR 0, iI x1, iI (wr ((-1000000) - x1))] [vI 0] M _
    refine wq_if_eq (pc := 12) (tgt := 25) dD_finding_12 (by decide) (fun _ => ?_) (fun q => absurd (by decide) q)
    refine wq_iload_n (pc := 25) dD_finding_25 rfl rfl ?_
    refine wq_ireturn (pc := 26) dD_finding_26 trivial ?_
    exact H
set_option maxRecDepth 20000 in
theorem B_W_linked_0 {x1 x2 : Int} {M : Mm} {Q : Mm → Option Mv → Prop} (hS : RefOK M) (H : (((0 ≤ x2 ∧ x2 < 16) ∧ (0 ≤ gI M 9 x2 ∧ gI M 9 x2 < 2147483648 ∧ 0 ≤ x1 ∧ x1 < 32)) ∧ ((hb (gI M 9 x2) x1 = true → Q M (some (vI 1))) ∧ (¬ (hb (gI M 9 x2) x1 = true) → Q M (some (vI 0)))))) : Wq 2 0 0 mW_linked 0 [iR 5, iI x1, iI x2] [] M Q := by
  obtain ⟨⟨s1, s2⟩, H⟩ := H
  refine wq_aload_n (pc := 0) dW_linked_0 rfl rfl ?_
  refine wq_getR (pc := 1) (z := 3) (b := 9) dW_linked_1 fO_W_21 sh_5 rfl rfl (rf_5_3 hS) ?_
  refine wq_iload_n (pc := 4) dW_linked_4 rfl rfl ?_
  refine wq_iald (pc := 5) dW_linked_5 sh_9 s1.1 s1.2 ?_
  refine wq_iload_n (pc := 6) dW_linked_6 rfl rfl ?_
  refine wq_callS (d' := 1) (pc := 7) (as := [vI (gI M 9 x2), vI x1]) (rest := []) (lo' := [iI (gI M 9 x2), iI x1]) dW_linked_7 mO_D_holds lS_W_43 rfl rfl rfl rfl rfl rfl ?_
  refine sp_D_holds s2 (fun c3 => ?_) (fun c3 => ?_)
  · have H := H.1 c3
    show Wq 2 0 0 mW_linked 10 [iR 5, iI x1, iI x2] [vI 1] M _
    refine wq_ireturn (pc := 10) dW_linked_10 (Or.inr rfl) ?_
    exact H
  · have H := H.2 c3
    show Wq 2 0 0 mW_linked 10 [iR 5, iI x1, iI x2] [vI 0] M _
    refine wq_ireturn (pc := 10) dW_linked_10 (Or.inl rfl) ?_
    exact H
set_option maxRecDepth 20000 in
theorem B_M_is_0 {x1 x2 : Int} {M : Mm} {Q : Mm → Option Mv → Prop} (hS : RefOK M) (H : (((0 ≤ x2 ∧ x2 < 1993) ∧ (-2147483648 ≤ gI M 81 x2 - 1 ∧ gI M 81 x2 - 1 < 2147483648)) ∧ ((0 ≤ x1 ∧ x1 ≤ gI M 81 x2 - 1 → Q M (some (vI 1))) ∧ (¬ (0 ≤ x1 ∧ x1 ≤ gI M 81 x2 - 1) → Q M (some (vI 0)))))) : Wq 2 0 0 mM_is 0 [iR 80, iI x1, iI x2] [] M Q := by
  obtain ⟨⟨s1, s2⟩, H⟩ := H
  refine wq_iload_n (pc := 0) dM_is_0 rfl rfl ?_
  refine wq_i2l (pc := 1) dM_is_1 ?_
  refine wq_lconst (pc := 2) (x := 0) dM_is_2 rfl rfl ?_
  refine wq_aload_n (pc := 3) dM_is_3 rfl rfl ?_
  refine wq_getR (pc := 4) (z := 0) (b := 81) dM_is_4 fO_M_9 sh_80 rfl rfl (rf_80_0 hS) ?_
  refine wq_iload_n (pc := 7) dM_is_7 rfl rfl ?_
  refine wq_iald (pc := 8) dM_is_8 sh_81 s1.1 s1.2 ?_
  refine wq_iconst (pc := 9) dM_is_9 rfl ?_
  refine wq_isub (pc := 10) dM_is_10 ?_
  refine wq_re (x := (wr (gI M 81 x2 - 1))) (y := (gI M 81 x2 - 1)) (Eq.trans (wr_eq (by omega) (by omega)) (by omega)) ?_
  refine wq_i2l (pc := 11) dM_is_11 ?_
  refine wq_callS (d' := 1) (pc := 12) (as := [vL x1, vL 0, vL (gI M 81 x2 - 1)]) (rest := []) (lo' := [iL x1, none, iL 0, none, iL (gI M 81 x2 - 1), none]) dM_is_12 mO_M_within lS_M_68 rfl rfl rfl rfl rfl rfl ?_
  refine sp_M_within (fun c3 => ?_) (fun c3 => ?_)
  · have H := H.1 c3
    show Wq 2 0 0 mM_is 15 [iR 80, iI x1, iI x2] [vI 1] M _
    refine wq_ireturn (pc := 15) dM_is_15 (Or.inr rfl) ?_
    exact H
  · have H := H.2 c3
    show Wq 2 0 0 mM_is 15 [iR 80, iI x1, iI x2] [vI 0] M _
    refine wq_ireturn (pc := 15) dM_is_15 (Or.inl rfl) ?_
    exact H
set_option maxRecDepth 20000 in
theorem B_M_isSheet_0 {x0 : Int} {M : Mm} {Q : Mm → Option Mv → Prop} (H : ((0 ≤ x0 ∧ x0 ≤ 3 → Q M (some (vI 1))) ∧ (¬ (0 ≤ x0 ∧ x0 ≤ 3) → Q M (some (vI 0))))) : Wq 2 0 0 mM_isSheet 0 [iI x0] [] M Q := by
  refine wq_iload_n (pc := 0) dM_isSheet_0 rfl rfl ?_
  refine wq_i2l (pc := 1) dM_isSheet_1 ?_
  refine wq_lconst (pc := 2) (x := 0) dM_isSheet_2 rfl rfl ?_
  refine wq_ldc2 (pc := 3) (z := 3) dM_isSheet_3 kO_M_72 (by decide) ?_
  refine wq_callS (d' := 1) (pc := 6) (as := [vL x0, vL 0, vL 3]) (rest := []) (lo' := [iL x0, none, iL 0, none, iL 3, none]) dM_isSheet_6 mO_M_within lS_M_68 rfl rfl rfl rfl rfl rfl ?_
  refine sp_M_within (fun c1 => ?_) (fun c1 => ?_)
  · have H := H.1 c1
    show Wq 2 0 0 mM_isSheet 9 [iI x0] [vI 1] M _
    refine wq_ireturn (pc := 9) dM_isSheet_9 (Or.inr rfl) ?_
    exact H
  · have H := H.2 c1
    show Wq 2 0 0 mM_isSheet 9 [iI x0] [vI 0] M _
    refine wq_ireturn (pc := 9) dM_isSheet_9 (Or.inl rfl) ?_
    exact H
set_option maxRecDepth 20000 in
theorem B_M_isDay_0 {x0 : Int} {M : Mm} {Q : Mm → Option Mv → Prop} (H : ((0 ≤ x0 ∧ x0 ≤ 900 → Q M (some (vI 1))) ∧ (¬ (0 ≤ x0 ∧ x0 ≤ 900) → Q M (some (vI 0))))) : Wq 2 0 0 mM_isDay 0 [iI x0] [] M Q := by
  refine wq_iload_n (pc := 0) dM_isDay_0 rfl rfl ?_
  refine wq_i2l (pc := 1) dM_isDay_1 ?_
  refine wq_lconst (pc := 2) (x := 0) dM_isDay_2 rfl rfl ?_
  refine wq_ldc2 (pc := 3) (z := 900) dM_isDay_3 kO_M_119 (by decide) ?_
  refine wq_callS (d' := 1) (pc := 6) (as := [vL x0, vL 0, vL 900]) (rest := []) (lo' := [iL x0, none, iL 0, none, iL 900, none]) dM_isDay_6 mO_M_within lS_M_68 rfl rfl rfl rfl rfl rfl ?_
  refine sp_M_within (fun c1 => ?_) (fun c1 => ?_)
  · have H := H.1 c1
    show Wq 2 0 0 mM_isDay 9 [iI x0] [vI 1] M _
    refine wq_ireturn (pc := 9) dM_isDay_9 (Or.inr rfl) ?_
    exact H
  · have H := H.2 c1
    show Wq 2 0 0 mM_isDay 9 [iI x0] [vI 0] M _
    refine wq_ireturn (pc := 9) dM_isDay_9 (Or.inl rfl) ?_
    exact H
set_option maxRecDepth 20000 in
theorem B_M_areEvents_0 {x1 : Int} {M : Mm} {Q : Mm → Option Mv → Prop} (hS : RefOK M) (H : ((0 ≤ x1 ∧ x1 ≤ wl (lShl 1 (gI M 81 4) - 1) → Q M (some (vI 1))) ∧ (¬ (0 ≤ x1 ∧ x1 ≤ wl (lShl 1 (gI M 81 4) - 1)) → Q M (some (vI 0))))) : Wq 2 0 0 mM_areEvents 0 [iR 80, iI x1] [] M Q := by
  refine wq_iload_n (pc := 0) dM_areEvents_0 rfl rfl ?_
  refine wq_i2l (pc := 1) dM_areEvents_1 ?_
  refine wq_lconst (pc := 2) (x := 0) dM_areEvents_2 rfl rfl ?_
  refine wq_lconst (pc := 3) (x := 1) dM_areEvents_3 rfl rfl ?_
  refine wq_aload_n (pc := 4) dM_areEvents_4 rfl rfl ?_
  refine wq_getR (pc := 5) (z := 0) (b := 81) dM_areEvents_5 fO_M_9 sh_80 rfl rfl (rf_80_0 hS) ?_
  refine wq_iconst (pc := 8) dM_areEvents_8 rfl ?_
  refine wq_iald (pc := 9) dM_areEvents_9 sh_81 (by decide) (by decide) ?_
  refine wq_lshl (pc := 10) dM_areEvents_10 ?_
  refine wq_lconst (pc := 11) (x := 1) dM_areEvents_11 rfl rfl ?_
  refine wq_lsub (pc := 12) dM_areEvents_12 ?_
  refine wq_callS (d' := 1) (pc := 13) (as := [vL x1, vL 0, vL (wl (lShl 1 (gI M 81 4) - 1))]) (rest := []) (lo' := [iL x1, none, iL 0, none, iL (wl (lShl 1 (gI M 81 4) - 1)), none]) dM_areEvents_13 mO_M_within lS_M_68 rfl rfl rfl rfl rfl rfl ?_
  refine sp_M_within (fun c1 => ?_) (fun c1 => ?_)
  · have H := H.1 c1
    show Wq 2 0 0 mM_areEvents 16 [iR 80, iI x1] [vI 1] M _
    refine wq_ireturn (pc := 16) dM_areEvents_16 (Or.inr rfl) ?_
    exact H
  · have H := H.2 c1
    show Wq 2 0 0 mM_areEvents 16 [iR 80, iI x1] [vI 0] M _
    refine wq_ireturn (pc := 16) dM_areEvents_16 (Or.inl rfl) ?_
    exact H
