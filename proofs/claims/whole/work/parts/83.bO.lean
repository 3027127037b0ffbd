set_option maxRecDepth 20000 in
theorem B_M_endHurried_0 {M : Mm} {Q : Mm → Option Mv → Prop} (hS : RefOK M) (H : Wq 2 0 0 mM_knownOn 0 [iR 80, iI (gI M 81 0), none, none, none] [] M (fun M' v => Wq 5 0 0 mM_endHurried 11 [iR 80, none] (v.toList ++ [vR 80]) M' Q)) : Wq 5 0 0 mM_endHurried 0 [iR 80, none] [] M Q := by
  refine wq_aload_n (pc := 0) dM_endHurried_0 rfl rfl ?_
  refine wq_aload_n (pc := 1) dM_endHurried_1 rfl rfl ?_
  refine wq_aload_n (pc := 2) dM_endHurried_2 rfl rfl ?_
  refine wq_getR (pc := 3) (z := 0) (b := 81) dM_endHurried_3 fO_M_9 sh_80 rfl rfl (rf_80_0 hS) ?_
  refine wq_iconst (pc := 6) dM_endHurried_6 rfl ?_
  refine wq_iald (pc := 7) dM_endHurried_7 sh_81 (by decide) (by decide) ?_
  refine wq_callV (d' := 2) (pc := 8) (as := [vI (gI M 81 0)]) (rest := [vR 80]) (lo' := [iR 80, iI (gI M 81 0), none, none, none]) dM_endHurried_8 mO_M_knownOn lV_M_132 sh_80 (by decide) cl_11 rfl rfl rfl rfl rfl rfl ?_
  exact H

set_option maxRecDepth 20000 in
theorem B_M_endHurried_11 {y0 : Int} {M : Mm} {Q : Mm → Option Mv → Prop} (H : Wq 2 0 0 mM_needBy 0 [iR 80, iI y0, none] [] M (fun M' v => Wq 5 0 0 mM_endHurried 14 [iR 80, none] (v.toList ++ []) M' Q)) : Wq 5 0 0 mM_endHurried 11 [iR 80, none] [vI y0, vR 80] M Q := by
  refine wq_callV (d' := 2) (pc := 11) (as := [vI y0]) (rest := []) (lo' := [iR 80, iI y0, none]) dM_endHurried_11 mO_M_needBy lV_M_154 sh_80 (by decide) cl_11 rfl rfl rfl rfl rfl rfl ?_
  exact H

set_option maxRecDepth 20000 in
theorem B_M_endHurried_14 {M : Mm} {Q : Mm → Option Mv → Prop} (H : Wq 5 0 0 mM_endHurried 16 [iR 80, iI 0] [] M Q) : Wq 5 0 0 mM_endHurried 14 [iR 80, none] [] M Q := by
  refine wq_iconst (pc := 14) dM_endHurried_14 rfl ?_
  refine wq_istore_n (pc := 15) (lo' := [iR 80, iI 0]) dM_endHurried_15 rfl rfl rfl ?_
  exact H

set_option maxRecDepth 20000 in
theorem B_M_endHurried_16 {x1 : Int} {M : Mm} {Q : Mm → Option Mv → Prop} (hS : RefOK M) (H : ((gI M 81 6 ≤ x1 → Wq 4 0 0 mM_goThrough 0 [iR 80, none, none, none, none, none] [] M (fun M' v => Wq 5 0 0 mM_endHurried 63 [iR 80, iI x1] (v.toList ++ []) M' Q)) ∧ (¬ gI M 81 6 ≤ x1 → (((0 ≤ 1018 + 3 * x1 ∧ 1018 + 3 * x1 < 1993) ∧ (0 ≤ gI M 81 (1018 + 3 * x1) ∧ gI M 81 (1018 + 3 * x1) < 16) ∧ (0 ≤ x1 ∧ x1 < 5) ∧ (-2147483648 ≤ gI M 88 (gI M 81 (1018 + 3 * x1)) - gI M 96 x1 ∧ gI M 88 (gI M 81 (1018 + 3 * x1)) - gI M 96 x1 < 2147483648) ∧ (-2147483648 ≤ x1 + 1 ∧ x1 + 1 < 2147483648)) ∧ Wq 5 0 0 mM_endHurried 16 [iR 80, iI (x1 + 1)] [] (sI M 88 (gI M 81 (1018 + 3 * x1)) (gI M 88 (gI M 81 (1018 + 3 * x1)) - gI M 96 x1)) Q)))) : Wq 5 0 0 mM_endHurried 16 [iR 80, iI x1] [] M Q := by
  refine wq_iload_n (pc := 16) dM_endHurried_16 rfl rfl ?_
  refine wq_aload_n (pc := 17) dM_endHurried_17 rfl rfl ?_
  refine wq_getR (pc := 18) (z := 0) (b := 81) dM_endHurried_18 fO_M_9 sh_80 rfl rfl (rf_80_0 hS) ?_
  refine wq_bipush (pc := 21) dM_endHurried_21 rfl ?_
  refine wq_iald (pc := 23) dM_endHurried_23 sh_81 (by decide) (by decide) ?_
  refine wq_icmp_ge (pc := 24) (tgt := 59) dM_endHurried_24 (by decide) (fun c1 => ?_) (fun c1 => ?_)
  · have H := H.1 c1
    refine wq_aload_n (pc := 59) dM_endHurried_59 rfl rfl ?_
    refine wq_callV (d' := 4) (pc := 60) (as := []) (rest := []) (lo' := [iR 80, none, none, none, none, none]) dM_endHurried_60 mO_M_goThrough lV_M_158 sh_80 (by decide) cl_11 rfl rfl rfl rfl rfl rfl ?_
    exact H
  · have H := H.2 c1
    obtain ⟨⟨s2, s3, s4, s5, s6⟩, H⟩ := H
    refine wq_aload_n (pc := 27) dM_endHurried_27 rfl rfl ?_
    refine wq_getR (pc := 28) (z := 9) (b := 88) dM_endHurried_28 fO_M_31 sh_80 rfl rfl (rf_80_9 hS) ?_
    refine wq_aload_n (pc := 31) dM_endHurried_31 rfl rfl ?_
    refine wq_getR (pc := 32) (z := 0) (b := 81) dM_endHurried_32 fO_M_9 sh_80 rfl rfl (rf_80_0 hS) ?_
    refine wq_sipush (pc := 35) dM_endHurried_35 rfl ?_
    refine wq_iconst (pc := 38) dM_endHurried_38 rfl ?_
    refine wq_iload_n (pc := 39) dM_endHurried_39 rfl rfl ?_
    refine wq_imul (pc := 40) dM_endHurried_40 ?_
    refine wq_iadd (pc := 41) dM_endHurried_41 ?_
    refine wq_re (x := (wr (1018 + wr (3 * x1)))) (y := (1018 + 3 * x1)) (by (try simp only [wr_al, wr_ar, wr_sl, wr_sr, wr_ml, wr_mr, wr_nn, wr_ww]); exact Eq.trans (wr_eq (by omega) (by omega)) (by omega)) ?_
    refine wq_iald (pc := 42) dM_endHurried_42 sh_81 s2.1 s2.2 ?_
    refine wq_dup2 (pc := 43) dM_endHurried_43 rfl rfl ?_
    refine wq_iald (pc := 44) dM_endHurried_44 sh_88 s3.1 s3.2 ?_
    refine wq_aload_n (pc := 45) dM_endHurried_45 rfl rfl ?_
    refine wq_getR (pc := 46) (z := 22) (b := 96) dM_endHurried_46 fO_M_55 sh_80 rfl rfl (rf_80_22 hS) ?_
    refine wq_iload_n (pc := 49) dM_endHurried_49 rfl rfl ?_
    refine wq_iald (pc := 50) dM_endHurried_50 sh_96 s4.1 s4.2 ?_
    refine wq_isub (pc := 51) dM_endHurried_51 ?_
    refine wq_re (x := (wr (gI M 88 (gI M 81 (1018 + 3 * x1)) - gI M 96 x1))) (y := (gI M 88 (gI M 81 (1018 + 3 * x1)) - gI M 96 x1)) (Eq.trans (wr_eq (by omega) (by omega)) (by omega)) ?_
    refine wq_iast (pc := 52) dM_endHurried_52 sh_88 (by decide) s3.1 s3.2 ?_
    refine wq_iinc (pc := 53) (lo' := [iR 80, iI (x1 + 1)]) dM_endHurried_53 rfl rfl (by rw [show wr (x1 + 1) = x1 + 1 from (Eq.trans (wr_eq (by omega) (by omega)) (by omega))]; rfl) ?_
    refine wq_goto (pc := 56) (tgt := 16) dM_endHurried_56 (by decide) ?_
    exact H

set_option maxRecDepth 20000 in
theorem B_M_endHurried_63 {x1 y0 : Int} {M : Mm} {Q : Mm → Option Mv → Prop} (H : Q M (some (vI y0))) : Wq 5 0 0 mM_endHurried 63 [iR 80, iI x1] [vI y0] M Q := by
  refine wq_ireturn (pc := 63) dM_endHurried_63 trivial ?_
  exact H
set_option maxRecDepth 20000 in
theorem B_M_sumHurried_0 {M : Mm} {Q : Mm → Option Mv → Prop} (H : Wq 1 0 0 mM_sumHurried 4 [iR 80, iI 0, iI 0] [] M Q) : Wq 1 0 0 mM_sumHurried 0 [iR 80, none, none] [] M Q := by
  refine wq_iconst (pc := 0) dM_sumHurried_0 rfl ?_
  refine wq_istore_n (pc := 1) (lo' := [iR 80, iI 0, none]) dM_sumHurried_1 rfl rfl rfl ?_
  refine wq_iconst (pc := 2) dM_sumHurried_2 rfl ?_
  refine wq_istore_n (pc := 3) (lo' := [iR 80, iI 0, iI 0]) dM_sumHurried_3 rfl rfl rfl ?_
  exact H

set_option maxRecDepth 20000 in
theorem B_M_sumHurried_4 {x1 x2 : Int} {M : Mm} {Q : Mm → Option Mv → Prop} (hS : RefOK M) (H : ((gI M 81 6 ≤ x2 → Q M (some (vI x1))) ∧ (¬ gI M 81 6 ≤ x2 → (((0 ≤ x2 ∧ x2 < 5) ∧ (0 ≤ 1020 + 3 * x2 ∧ 1020 + 3 * x2 < 1993) ∧ (-2147483648 ≤ x1 + gI M 96 x2 * gI M 81 (1020 + 3 * x2) ∧ x1 + gI M 96 x2 * gI M 81 (1020 + 3 * x2) < 2147483648) ∧ (-2147483648 ≤ x2 + 1 ∧ x2 + 1 < 2147483648)) ∧ Wq 1 0 0 mM_sumHurried 4 [iR 80, iI (x1 + gI M 96 x2 * gI M 81 (1020 + 3 * x2)), iI (x2 + 1)] [] M Q)))) : Wq 1 0 0 mM_sumHurried 4 [iR 80, iI x1, iI x2] [] M Q := by
  refine wq_iload_n (pc := 4) dM_sumHurried_4 rfl rfl ?_
  refine wq_aload_n (pc := 5) dM_sumHurried_5 rfl rfl ?_
  refine wq_getR (pc := 6) (z := 0) (b := 81) dM_sumHurried_6 fO_M_9 sh_80 rfl rfl (rf_80_0 hS) ?_
  refine wq_bipush (pc := 9) dM_sumHurried_9 rfl ?_
  refine wq_iald (pc := 11) dM_sumHurried_11 sh_81 (by decide) (by decide) ?_
  refine wq_icmp_ge (pc := 12) (tgt := 45) dM_sumHurried_12 (by decide) (fun c1 => ?_) (fun c1 => ?_)
  · have H := H.1 c1
    refine wq_iload_n (pc := 45) dM_sumHurried_45 rfl rfl ?_
    refine wq_ireturn (pc := 46) dM_sumHurried_46 trivial ?_
    exact H
  · have H := H.2 c1
    obtain ⟨⟨s2, s3, s4, s5⟩, H⟩ := H
    refine wq_iload_n (pc := 15) dM_sumHurried_15 rfl rfl ?_
    refine wq_aload_n (pc := 16) dM_sumHurried_16 rfl rfl ?_
    refine wq_getR (pc := 17) (z := 22) (b := 96) dM_sumHurried_17 fO_M_55 sh_80 rfl rfl (rf_80_22 hS) ?_
    refine wq_iload_n (pc := 20) dM_sumHurried_20 rfl rfl ?_
    refine wq_iald (pc := 21) dM_sumHurried_21 sh_96 s2.1 s2.2 ?_
    refine wq_aload_n (pc := 22) dM_sumHurried_22 rfl rfl ?_
    refine wq_getR (pc := 23) (z := 0) (b := 81) dM_sumHurried_23 fO_M_9 sh_80 rfl rfl (rf_80_0 hS) ?_
    refine wq_sipush (pc := 26) dM_sumHurried_26 rfl ?_
    refine wq_iconst (pc := 29) dM_sumHurried_29 rfl ?_
    refine wq_iload_n (pc := 30) dM_sumHurried_30 rfl rfl ?_
    refine wq_imul (pc := 31) dM_sumHurried_31 ?_
    refine wq_iadd (pc := 32) dM_sumHurried_32 ?_
    refine wq_iconst (pc := 33) dM_sumHurried_33 rfl ?_
    refine wq_iadd (pc := 34) dM_sumHurried_34 ?_
    refine wq_re (x := (wr (wr (1018 + wr (3 * x2)) + 2))) (y := (1020 + 3 * x2)) (by (try simp only [wr_al, wr_ar, wr_sl, wr_sr, wr_ml, wr_mr, wr_nn, wr_ww]); exact Eq.trans (wr_eq (by omega) (by omega)) (by omega)) ?_
    refine wq_iald (pc := 35) dM_sumHurried_35 sh_81 s3.1 s3.2 ?_
    refine wq_imul (pc := 36) dM_sumHurried_36 ?_
    refine wq_iadd (pc := 37) dM_sumHurried_37 ?_
    refine wq_re (x := (wr (x1 + wr (gI M 96 x2 * gI M 81 (1020 + 3 * x2))))) (y := (x1 + gI M 96 x2 * gI M 81 (1020 + 3 * x2))) (by (try simp only [wr_al, wr_ar, wr_sl, wr_sr, wr_ml, wr_mr, wr_nn, wr_ww]); exact Eq.trans (wr_eq (by omega) (by omega)) (by omega)) ?_
    refine wq_istore_n (pc := 38) (lo' := [iR 80, iI (x1 + gI M 96 x2 * gI M 81 (1020 + 3 * x2)), iI x2]) dM_sumHurried_38 rfl rfl rfl ?_
    refine wq_iinc (pc := 39) (lo' := [iR 80, iI (x1 + gI M 96 x2 * gI M 81 (1020 + 3 * x2)), iI (x2 + 1)]) dM_sumHurried_39 rfl rfl (by rw [show wr (x2 + 1) = x2 + 1 from (Eq.trans (wr_eq (by omega) (by omega)) (by omega))]; rfl) ?_
    refine wq_goto (pc := 42) (tgt := 4) dM_sumHurried_42 (by decide) ?_
    exact H
set_option maxRecDepth 20000 in
theorem B_M_leastFor_0 {x1 : Int} {M : Mm} {Q : Mm → Option Mv → Prop} (H : Wq 6 0 0 mM_leastFor 4 [iR 80, iI x1, iI ((-1)), iI 0, none, none] [] M Q) : Wq 6 0 0 mM_leastFor 0 [iR 80, iI x1, none, none, none, none] [] M Q := by
  refine wq_iconst (pc := 0) dM_leastFor_0 rfl ?_
  refine wq_istore_n (pc := 1) (lo' := [iR 80, iI x1, iI ((-1)), none, none, none]) dM_leastFor_1 rfl rfl rfl ?_
  refine wq_iconst (pc := 2) dM_leastFor_2 rfl ?_
  refine wq_istore_n (pc := 3) (lo' := [iR 80, iI x1, iI ((-1)), iI 0, none, none]) dM_leastFor_3 rfl rfl rfl ?_
  exact H

set_option maxRecDepth 20000 in
theorem B_M_leastFor_4 {x1 x2 x3 : Int} {M : Mm} {Q : Mm → Option Mv → Prop} (hS : RefOK M) (H : ((5 ≤ x3 → Wq 6 0 0 mM_leastFor 24 [iR 80, iI x1, iI x2, iI 1, none, none] [] M Q) ∧ (¬ 5 ≤ x3 → (((0 ≤ x3 ∧ x3 < 5) ∧ (-2147483648 ≤ x3 + 1 ∧ x3 + 1 < 2147483648)) ∧ Wq 6 0 0 mM_leastFor 4 [iR 80, iI x1, iI x2, iI (x3 + 1), none, none] [] (sI M 96 x3 0) Q)))) : Wq 6 0 0 mM_leastFor 4 [iR 80, iI x1, iI x2, iI x3, none, none] [] M Q := by
  refine wq_iload_n (pc := 4) dM_leastFor_4 rfl rfl ?_
  refine wq_iconst (pc := 5) dM_leastFor_5 rfl ?_
  refine wq_icmp_ge (pc := 6) (tgt := 22) dM_leastFor_6 (by decide) (fun c1 => ?_) (fun c1 => ?_)
  · have H := H.1 c1
    refine wq_iconst (pc := 22) dM_leastFor_22 rfl ?_
    refine wq_istore_n (pc := 23) (lo' := [iR 80, iI x1, iI x2, iI 1, none, none]) dM_leastFor_23 rfl rfl rfl ?_
    exact H
  · have H := H.2 c1
    obtain ⟨⟨s2, s3⟩, H⟩ := H
    refine wq_aload_n (pc := 9) dM_leastFor_9 rfl rfl ?_
    refine wq_getR (pc := 10) (z := 22) (b := 96) dM_leastFor_10 fO_M_55 sh_80 rfl rfl (rf_80_22 hS) ?_
    refine wq_iload_n (pc := 13) dM_leastFor_13 rfl rfl ?_
    refine wq_iconst (pc := 14) dM_leastFor_14 rfl ?_
    refine wq_iast (pc := 15) dM_leastFor_15 sh_96 (by decide) s2.1 s2.2 ?_
    refine wq_iinc (pc := 16) (lo' := [iR 80, iI x1, iI x2, iI (x3 + 1), none, none]) dM_leastFor_16 rfl rfl (by rw [show wr (x3 + 1) = x3 + 1 from (Eq.trans (wr_eq (by omega) (by omega)) (by omega))]; rfl) ?_
    refine wq_goto (pc := 19) (tgt := 4) dM_leastFor_19 (by decide) ?_
    exact H

set_option maxRecDepth 20000 in
theorem B_M_leastFor_24 {x1 x2 x3 : Int} {M : Mm} {Q : Mm → Option Mv → Prop} (H : ((x3 = 0 → Q M (some (vI x2))) ∧ (¬ x3 = 0 → Wq 1 0 0 mM_sumHurried 0 [iR 80, none, none] [] M (fun M' v => Wq 6 0 0 mM_leastFor 32 [iR 80, iI x1, iI x2, iI x3, none, none] (v.toList ++ []) M' Q)))) : Wq 6 0 0 mM_leastFor 24 [iR 80, iI x1, iI x2, iI x3, none, none] [] M Q := by
  refine wq_iload_n (pc := 24) dM_leastFor_24 rfl rfl ?_
  refine wq_if_eq (pc := 25) (tgt := 168) dM_leastFor_25 (by decide) (fun c1 => ?_) (fun c1 => ?_)
  · have H := H.1 c1
    refine wq_iload_n (pc := 168) dM_leastFor_168 rfl rfl ?_
    refine wq_ireturn (pc := 169) dM_leastFor_169 trivial ?_
    exact H
  · have H := H.2 c1
    refine wq_aload_n (pc := 28) dM_leastFor_28 rfl rfl ?_
    refine wq_callV (d' := 1) (pc := 29) (as := []) (rest := []) (lo' := [iR 80, none, none]) dM_leastFor_29 mO_M_sumHurried lV_M_272 sh_80 (by decide) cl_11 rfl rfl rfl rfl rfl rfl ?_
    exact H

set_option maxRecDepth 20000 in
theorem B_M_leastFor_32 {x1 x2 x3 y0 : Int} {M : Mm} {Q : Mm → Option Mv → Prop} (hS : RefOK M) (H : ((x2 < 0 → Wq 5 0 0 mM_endHurried 0 [iR 80, none] [] M (fun M' v => Wq 6 0 0 mM_leastFor 48 [iR 80, iI x1, iI x2, iI x3, iI y0, none] (v.toList ++ []) M' Q)) ∧ (¬ x2 < 0 → ((x2 ≤ y0 → ((-2147483648 ≤ gI M 81 6 - 1 ∧ gI M 81 6 - 1 < 2147483648) ∧ Wq 6 0 0 mM_leastFor 95 [iR 80, iI x1, iI x2, iI x3, iI y0, iI (gI M 81 6 - 1)] [] M Q)) ∧ (¬ x2 ≤ y0 → Wq 5 0 0 mM_endHurried 0 [iR 80, none] [] M (fun M' v => Wq 6 0 0 mM_leastFor 48 [iR 80, iI x1, iI x2, iI x3, iI y0, none] (v.toList ++ []) M' Q)))))) : Wq 6 0 0 mM_leastFor 32 [iR 80, iI x1, iI x2, iI x3, none, none] [vI y0] M Q := by
  refine wq_istore (pc := 32) (lo' := [iR 80, iI x1, iI x2, iI x3, iI y0, none]) dM_leastFor_32 rfl rfl ?_
  refine wq_iload_n (pc := 34) dM_leastFor_34 rfl rfl ?_
  refine wq_if_lt (pc := 35) (tgt := 44) dM_leastFor_35 (by decide) (fun c1 => ?_) (fun c1 => ?_)
  · have H := H.1 c1
    refine wq_aload_n (pc := 44) dM_leastFor_44 rfl rfl ?_
    refine wq_callV (d' := 5) (pc := 45) (as := []) (rest := []) (lo' := [iR 80, none]) dM_leastFor_45 mO_M_endHurried lV_M_275 sh_80 (by decide) cl_11 rfl rfl rfl rfl rfl rfl ?_
    exact H
  · have H := H.2 c1
    refine wq_iload (pc := 38) dM_leastFor_38 rfl ?_
    refine wq_iload_n (pc := 40) dM_leastFor_40 rfl rfl ?_
    refine wq_icmp_ge (pc := 41) (tgt := 84) dM_leastFor_41 (by decide) (fun c2 => ?_) (fun c2 => ?_)
    · have H := H.1 c2
      obtain ⟨s3, H⟩ := H
      refine wq_aload_n (pc := 84) dM_leastFor_84 rfl rfl ?_
      refine wq_getR (pc := 85) (z := 0) (b := 81) dM_leastFor_85 fO_M_9 sh_80 rfl rfl (rf_80_0 hS) ?_
      refine wq_bipush (pc := 88) dM_leastFor_88 rfl ?_
      refine wq_iald (pc := 90) dM_leastFor_90 sh_81 (by decide) (by decide) ?_
      refine wq_iconst (pc := 91) dM_leastFor_91 rfl ?_
      refine wq_isub (pc := 92) dM_leastFor_92 ?_
      refine wq_re (x := (wr (gI M 81 6 - 1))) (y := (gI M 81 6 - 1)) (Eq.trans (wr_eq (by omega) (by omega)) (by omega)) ?_
      refine wq_istore (pc := 93) (lo' := [iR 80, iI x1, iI x2, iI x3, iI y0, iI (gI M 81 6 - 1)]) dM_leastFor_93 rfl rfl ?_
      exact H
    · have H := H.2 c2
      refine wq_aload_n (pc := 44) dM_leastFor_44 rfl rfl ?_
      refine wq_callV (d' := 5) (pc := 45) (as := []) (rest := []) (lo' := [iR 80, none]) dM_leastFor_45 mO_M_endHurried lV_M_275 sh_80 (by decide) cl_11 rfl rfl rfl rfl rfl rfl ?_
      exact H

set_option maxRecDepth 20000 in
theorem B_M_leastFor_48 {x1 x2 x3 x4 y0 : Int} {M : Mm} {Q : Mm → Option Mv → Prop} (hS : RefOK M) (H : ((x1 < y0 → ((-2147483648 ≤ gI M 81 6 - 1 ∧ gI M 81 6 - 1 < 2147483648) ∧ Wq 6 0 0 mM_leastFor 95 [iR 80, iI x1, iI x2, iI x3, iI x4, iI (gI M 81 6 - 1)] [] M Q)) ∧ (¬ x1 < y0 → Wq 6 0 0 mM_leastFor 58 [iR 80, iI x1, iI x4, iI x3, iI x4, iI 0] [] M Q))) : Wq 6 0 0 mM_leastFor 48 [iR 80, iI x1, iI x2, iI x3, iI x4, none] [vI y0] M Q := by
  refine wq_iload_n (pc := 48) dM_leastFor_48 rfl rfl ?_
  refine wq_icmp_gt (pc := 49) (tgt := 84) dM_leastFor_49 (by decide) (fun c1 => ?_) (fun c1 => ?_)
  · have H := H.1 c1
    obtain ⟨s2, H⟩ := H
    refine wq_aload_n (pc := 84) dM_leastFor_84 rfl rfl ?_
    refine wq_getR (pc := 85) (z := 0) (b := 81) dM_leastFor_85 fO_M_9 sh_80 rfl rfl (rf_80_0 hS) ?_
    refine wq_bipush (pc := 88) dM_leastFor_88 rfl ?_
    refine wq_iald (pc := 90) dM_leastFor_90 sh_81 (by decide) (by decide) ?_
    refine wq_iconst (pc := 91) dM_leastFor_91 rfl ?_
    refine wq_isub (pc := 92) dM_leastFor_92 ?_
    refine wq_re (x := (wr (gI M 81 6 - 1))) (y := (gI M 81 6 - 1)) (Eq.trans (wr_eq (by omega) (by omega)) (by omega)) ?_
    refine wq_istore (pc := 93) (lo' := [iR 80, iI x1, iI x2, iI x3, iI x4, iI (gI M 81 6 - 1)]) dM_leastFor_93 rfl rfl ?_
    exact H
  · have H := H.2 c1
    refine wq_iload (pc := 52) dM_leastFor_52 rfl ?_
    refine wq_istore_n (pc := 54) (lo' := [iR 80, iI x1, iI x4, iI x3, iI x4, none]) dM_leastFor_54 rfl rfl rfl ?_
    refine wq_iconst (pc := 55) dM_leastFor_55 rfl ?_
    refine wq_istore (pc := 56) (lo' := [iR 80, iI x1, iI x4, iI x3, iI x4, iI 0]) dM_leastFor_56 rfl rfl ?_
    exact H

set_option maxRecDepth 20000 in
theorem B_M_leastFor_58 {x1 x2 x3 x4 x5 : Int} {M : Mm} {Q : Mm → Option Mv → Prop} (hS : RefOK M) (H : ((5 ≤ x5 → ((-2147483648 ≤ gI M 81 6 - 1 ∧ gI M 81 6 - 1 < 2147483648) ∧ Wq 6 0 0 mM_leastFor 95 [iR 80, iI x1, iI x2, iI x3, iI x4, iI (gI M 81 6 - 1)] [] M Q)) ∧ (¬ 5 ≤ x5 → (((0 ≤ x5 ∧ x5 < 5) ∧ (-2147483648 ≤ x5 + 1 ∧ x5 + 1 < 2147483648)) ∧ Wq 6 0 0 mM_leastFor 58 [iR 80, iI x1, iI x2, iI x3, iI x4, iI (x5 + 1)] [] (sI M 97 x5 (gI M 96 x5)) Q)))) : Wq 6 0 0 mM_leastFor 58 [iR 80, iI x1, iI x2, iI x3, iI x4, iI x5] [] M Q := by
  refine wq_iload (pc := 58) dM_leastFor_58 rfl ?_
  refine wq_iconst (pc := 60) dM_leastFor_60 rfl ?_
  refine wq_icmp_ge (pc := 61) (tgt := 84) dM_leastFor_61 (by decide) (fun c1 => ?_) (fun c1 => ?_)
  · have H := H.1 c1
    obtain ⟨s2, H⟩ := H
    refine wq_aload_n (pc := 84) dM_leastFor_84 rfl rfl ?_
    refine wq_getR (pc := 85) (z := 0) (b := 81) dM_leastFor_85 fO_M_9 sh_80 rfl rfl (rf_80_0 hS) ?_
    refine wq_bipush (pc := 88) dM_leastFor_88 rfl ?_
    refine wq_iald (pc := 90) dM_leastFor_90 sh_81 (by decide) (by decide) ?_
    refine wq_iconst (pc := 91) dM_leastFor_91 rfl ?_
    refine wq_isub (pc := 92) dM_leastFor_92 ?_
    refine wq_re (x := (wr (gI M 81 6 - 1))) (y := (gI M 81 6 - 1)) (Eq.trans (wr_eq (by omega) (by omega)) (by omega)) ?_
    refine wq_istore (pc := 93) (lo' := [iR 80, iI x1, iI x2, iI x3, iI x4, iI (gI M 81 6 - 1)]) dM_leastFor_93 rfl rfl ?_
    exact H
  · have H := H.2 c1
    obtain ⟨⟨s3, s4⟩, H⟩ := H
    refine wq_aload_n (pc := 64) dM_leastFor_64 rfl rfl ?_
    refine wq_getR (pc := 65) (z := 23) (b := 97) dM_leastFor_65 fO_M_58 sh_80 rfl rfl (rf_80_23 hS) ?_
    refine wq_iload (pc := 68) dM_leastFor_68 rfl ?_
    refine wq_aload_n (pc := 70) dM_leastFor_70 rfl rfl ?_
    refine wq_getR (pc := 71) (z := 22) (b := 96) dM_leastFor_71 fO_M_55 sh_80 rfl rfl (rf_80_22 hS) ?_
    refine wq_iload (pc := 74) dM_leastFor_74 rfl ?_
    refine wq_iald (pc := 76) dM_leastFor_76 sh_96 s3.1 s3.2 ?_
    refine wq_iast (pc := 77) dM_leastFor_77 sh_97 (by decide) s3.1 s3.2 ?_
    refine wq_iinc (pc := 78) (lo' := [iR 80, iI x1, iI x2, iI x3, iI x4, iI (x5 + 1)]) dM_leastFor_78 rfl rfl (by rw [show wr (x5 + 1) = x5 + 1 from (Eq.trans (wr_eq (by omega) (by omega)) (by omega))]; rfl) ?_
    refine wq_goto (pc := 81) (tgt := 58) dM_leastFor_81 (by decide) ?_
    exact H

set_option maxRecDepth 20000 in
theorem B_M_leastFor_95 {x1 x2 x3 x4 x5 : Int} {M : Mm} {Q : Mm → Option Mv → Prop} (hS : RefOK M) (H : ((x5 < 0 → ((x5 < 0 → Wq 6 0 0 mM_leastFor 24 [iR 80, iI x1, iI x2, iI 0, none, none] [] M Q) ∧ (¬ x5 < 0 → (((0 ≤ x5 ∧ x5 < 5) ∧ (-2147483648 ≤ gI M 96 x5 + 1 ∧ gI M 96 x5 + 1 < 2147483648)) ∧ Wq 6 0 0 mM_leastFor 24 [iR 80, iI x1, iI x2, iI 1, none, none] [] (sI M 96 x5 (gI M 96 x5 + 1)) Q)))) ∧ (¬ x5 < 0 → (((0 ≤ x5 ∧ x5 < 5) ∧ (0 ≤ 1019 + 3 * x5 ∧ 1019 + 3 * x5 < 1993)) ∧ ((¬ gI M 96 x5 = gI M 81 (1019 + 3 * x5) → ((x5 < 0 → Wq 6 0 0 mM_leastFor 24 [iR 80, iI x1, iI x2, iI 0, none, none] [] M Q) ∧ (¬ x5 < 0 → ((-2147483648 ≤ gI M 96 x5 + 1 ∧ gI M 96 x5 + 1 < 2147483648) ∧ Wq 6 0 0 mM_leastFor 24 [iR 80, iI x1, iI x2, iI 1, none, none] [] (sI M 96 x5 (gI M 96 x5 + 1)) Q)))) ∧ (gI M 96 x5 = gI M 81 (1019 + 3 * x5) → ((-2147483648 ≤ x5 - 1 ∧ x5 - 1 < 2147483648) ∧ Wq 6 0 0 mM_leastFor 95 [iR 80, iI x1, iI x2, iI x3, iI x4, iI (x5 - 1)] [] (sI M 96 x5 0) Q))))))) : Wq 6 0 0 mM_leastFor 95 [iR 80, iI x1, iI x2, iI x3, iI x4, iI x5] [] M Q := by
  refine wq_iload (pc := 95) dM_leastFor_95 rfl ?_
  refine wq_if_lt (pc := 97) (tgt := 139) dM_leastFor_97 (by decide) (fun c1 => ?_) (fun c1 => ?_)
  · have H := H.1 c1
    refine wq_iload (pc := 139) dM_leastFor_139 rfl ?_
    refine wq_if_lt (pc := 141) (tgt := 148) dM_leastFor_141 (by decide) (fun c2 => ?_) (fun c2 => ?_)
    · have H := H.1 c2
      refine wq_iconst (pc := 148) dM_leastFor_148 rfl ?_
      refine wq_istore_n (pc := 149) (lo' := [iR 80, iI x1, iI x2, iI 0, iI x4, iI x5]) dM_leastFor_149 rfl rfl rfl ?_
      refine wq_iload_n (pc := 150) dM_leastFor_150 rfl rfl ?_
      refine wq_if_eq (pc := 151) (tgt := 165) dM_leastFor_151 (by decide) (fun _ => ?_) (fun q => absurd (by decide) q)
      refine wq_goto (pc := 165) (tgt := 24) dM_leastFor_165 (by decide) ?_
      refine wq_drop [4, 5] (lo' := [iR 80, iI x1, iI x2, iI 0, none, none]) rfl ?_
      exact H
    · have H := H.2 c2
      obtain ⟨⟨s3, s4⟩, H⟩ := H
      refine wq_iconst (pc := 144) dM_leastFor_144 rfl ?_
      refine wq_goto (pc := 145) (tgt := 149) dM_leastFor_145 (by decide) ?_
      refine wq_istore_n (pc := 149) (lo' := [iR 80, iI x1, iI x2, iI 1, iI x4, iI x5]) dM_leastFor_149 rfl rfl rfl ?_
      refine wq_iload_n (pc := 150) dM_leastFor_150 rfl rfl ?_
      refine wq_if_eq (pc := 151) (tgt := 165) dM_leastFor_151 (by decide) (fun q => absurd q (by decide)) (fun _ => ?_)
      refine wq_aload_n (pc := 154) dM_leastFor_154 rfl rfl ?_
      refine wq_getR (pc := 155) (z := 22) (b := 96) dM_leastFor_155 fO_M_55 sh_80 rfl rfl (rf_80_22 hS) ?_
      refine wq_iload (pc := 158) dM_leastFor_158 rfl ?_
      refine wq_dup2 (pc := 160) dM_leastFor_160 rfl rfl ?_
      refine wq_iald (pc := 161) dM_leastFor_161 sh_96 s3.1 s3.2 ?_
      refine wq_iconst (pc := 162) dM_leastFor_162 rfl ?_
      refine wq_iadd (pc := 163) dM_leastFor_163 ?_
      refine wq_re (x := (wr (gI M 96 x5 + 1))) (y := (gI M 96 x5 + 1)) (Eq.trans (wr_eq (by omega) (by omega)) (by omega)) ?_
      refine wq_iast (pc := 164) dM_leastFor_164 sh_96 (by decide) s3.1 s3.2 ?_
      refine wq_goto (pc := 165) (tgt := 24) dM_leastFor_165 (by decide) ?_
      refine wq_drop [4, 5] (lo' := [iR 80, iI x1, iI x2, iI 1, none, none]) rfl ?_
      exact H
  · have H := H.2 c1
    obtain ⟨⟨s5, s6⟩, H⟩ := H
    refine wq_aload_n (pc := 100) dM_leastFor_100 rfl rfl ?_
    refine wq_getR (pc := 101) (z := 22) (b := 96) dM_leastFor_101 fO_M_55 sh_80 rfl rfl (rf_80_22 hS) ?_
    refine wq_iload (pc := 104) dM_leastFor_104 rfl ?_
    refine wq_iald (pc := 106) dM_leastFor_106 sh_96 s5.1 s5.2 ?_
    refine wq_aload_n (pc := 107) dM_leastFor_107 rfl rfl ?_
    refine wq_getR (pc := 108) (z := 0) (b := 81) dM_leastFor_108 fO_M_9 sh_80 rfl rfl (rf_80_0 hS) ?_
    refine wq_sipush (pc := 111) dM_leastFor_111 rfl ?_
    refine wq_iconst (pc := 114) dM_leastFor_114 rfl ?_
    refine wq_iload (pc := 115) dM_leastFor_115 rfl ?_
    refine wq_imul (pc := 117) dM_leastFor_117 ?_
    refine wq_iadd (pc := 118) dM_leastFor_118 ?_
    refine wq_iconst (pc := 119) dM_leastFor_119 rfl ?_
    refine wq_iadd (pc := 120) dM_leastFor_120 ?_
    refine wq_re (x := (wr (wr (1018 + wr (3 * x5)) + 1))) (y := (1019 + 3 * x5)) (by (try simp only [wr_al, wr_ar, wr_sl, wr_sr, wr_ml, wr_mr, wr_nn, wr_ww]); exact Eq.trans (wr_eq (by omega) (by omega)) (by omega)) ?_
    refine wq_iald (pc := 121) dM_leastFor_121 sh_81 s6.1 s6.2 ?_
    refine wq_icmp_ne (pc := 122) (tgt := 139) dM_leastFor_122 (by decide) (fun c7 => ?_) (fun c7 => ?_)
    · have H := H.1 c7
      refine wq_iload (pc := 139) dM_leastFor_139 rfl ?_
      refine wq_if_lt (pc := 141) (tgt := 148) dM_leastFor_141 (by decide) (fun c8 => ?_) (fun c8 => ?_)
      · have H := H.1 c8
        refine wq_iconst (pc := 148) dM_leastFor_148 rfl ?_
        refine wq_istore_n (pc := 149) (lo' := [iR 80, iI x1, iI x2, iI 0, iI x4, iI x5]) dM_leastFor_149 rfl rfl rfl ?_
        refine wq_iload_n (pc := 150) dM_leastFor_150 rfl rfl ?_
        refine wq_if_eq (pc := 151) (tgt := 165) dM_leastFor_151 (by decide) (fun _ => ?_) (fun q => absurd (by decide) q)
        refine wq_goto (pc := 165) (tgt := 24) dM_leastFor_165 (by decide) ?_
        refine wq_drop [4, 5] (lo' := [iR 80, iI x1, iI x2, iI 0, none, none]) rfl ?_
        exact H
      · have H := H.2 c8
        obtain ⟨s9, H⟩ := H
        refine wq_iconst (pc := 144) dM_leastFor_144 rfl ?_
        refine wq_goto (pc := 145) (tgt := 149) dM_leastFor_145 (by decide) ?_
        refine wq_istore_n (pc := 149) (lo' := [iR 80, iI x1, iI x2, iI 1, iI x4, iI x5]) dM_leastFor_149 rfl rfl rfl ?_
        refine wq_iload_n (pc := 150) dM_leastFor_150 rfl rfl ?_
        refine wq_if_eq (pc := 151) (tgt := 165) dM_leastFor_151 (by decide) (fun q => absurd q (by decide)) (fun _ => ?_)
        refine wq_aload_n (pc := 154) dM_leastFor_154 rfl rfl ?_
        refine wq_getR (pc := 155) (z := 22) (b := 96) dM_leastFor_155 fO_M_55 sh_80 rfl rfl (rf_80_22 hS) ?_
        refine wq_iload (pc := 158) dM_leastFor_158 rfl ?_
        refine wq_dup2 (pc := 160) dM_leastFor_160 rfl rfl ?_
        refine wq_iald (pc := 161) dM_leastFor_161 sh_96 s5.1 s5.2 ?_
        refine wq_iconst (pc := 162) dM_leastFor_162 rfl ?_
        refine wq_iadd (pc := 163) dM_leastFor_163 ?_
        refine wq_re (x := (wr (gI M 96 x5 + 1))) (y := (gI M 96 x5 + 1)) (Eq.trans (wr_eq (by omega) (by omega)) (by omega)) ?_
        refine wq_iast (pc := 164) dM_leastFor_164 sh_96 (by decide) s5.1 s5.2 ?_
        refine wq_goto (pc := 165) (tgt := 24) dM_leastFor_165 (by decide) ?_
        refine wq_drop [4, 5] (lo' := [iR 80, iI x1, iI x2, iI 1, none, none]) rfl ?_
        exact H
    · have H := H.2 c7
      obtain ⟨s10, H⟩ := H
      refine wq_aload_n (pc := 125) dM_leastFor_125 rfl rfl ?_
      refine wq_getR (pc := 126) (z := 22) (b := 96) dM_leastFor_126 fO_M_55 sh_80 rfl rfl (rf_80_22 hS) ?_
      refine wq_iload (pc := 129) dM_leastFor_129 rfl ?_
      refine wq_iconst (pc := 131) dM_leastFor_131 rfl ?_
      refine wq_iast (pc := 132) dM_leastFor_132 sh_96 (by decide) s5.1 s5.2 ?_
      refine wq_iinc (pc := 133) (lo' := [iR 80, iI x1, iI x2, iI x3, iI x4, iI (x5 - 1)]) dM_leastFor_133 rfl rfl (by rw [show wr (x5 + (-1)) = x5 - 1 from (Eq.trans (wr_eq (by omega) (by omega)) (by omega))]; rfl) ?_
      refine wq_goto (pc := 136) (tgt := 95) dM_leastFor_136 (by decide) ?_
      exact H
set_option maxRecDepth 20000 in
theorem B_M_least_0 {x1 x2 : Int} {M : Mm} {Q : Mm → Option Mv → Prop} (hS : RefOK M) (H : ((0 ≤ x1 ∧ x1 ≤ 9999 → ((-2147483648 ≤ gI M 81 6 - 1 ∧ gI M 81 6 - 1 < 2147483648) ∧ (((-1) ≤ x2 ∧ x2 ≤ gI M 81 6 - 1 → Wq 6 0 0 mM_leastFor 0 [iR 80, iI x1, none, none, none, none] [] M (fun M' v => Wq 7 0 0 mM_least 45 [iR 80, iI x1, iI x2, none] (v.toList ++ []) M' Q)) ∧ (¬ ((-1) ≤ x2 ∧ x2 ≤ gI M 81 6 - 1) → Q (sI M 83 1 (wr (gI M 83 1 + 1))) (some (vI (-1000001))))))) ∧ (¬ (0 ≤ x1 ∧ x1 ≤ 9999) → Q (sI M 83 1 (wr (gI M 83 1 + 1))) (some (vI (-1000001)))))) : Wq 7 0 0 mM_least 0 [iR 80, iI x1, iI x2, none] [] M Q := by
  refine wq_iload_n (pc := 0) dM_least_0 rfl rfl ?_
  refine wq_i2l (pc := 1) dM_least_1 ?_
  refine wq_lconst (pc := 2) (x := 0) dM_least_2 rfl rfl ?_
  refine wq_ldc2 (pc := 3) (z := 9999) dM_least_3 kO_M_278 (by decide) ?_
  refine wq_callS (d' := 1) (pc := 6) (as := [vL x1, vL 0, vL 9999]) (rest := []) (lo' := [iL x1, none, iL 0, none, iL 9999, none]) dM_least_6 mO_M_within lS_M_68 rfl rfl rfl rfl rfl rfl ?_
  refine sp_M_within (fun c1 => ?_) (fun c1 => ?_)
  · have H := H.1 c1
    show Wq 7 0 0 mM_least 9 [iR 80, iI x1, iI x2, none] [vI 1] M _
    obtain ⟨s2, H⟩ := H
    refine wq_if_eq (pc := 9) (tgt := 33) dM_least_9 (by decide) (fun q => absurd q (by decide)) (fun _ => ?_)
    refine wq_iload_n (pc := 12) dM_least_12 rfl rfl ?_
    refine wq_i2l (pc := 13) dM_least_13 ?_
    refine wq_ldc2 (pc := 14) (z := (-1)) dM_least_14 kO_M_183 (by decide) ?_
    refine wq_aload_n (pc := 17) dM_least_17 rfl rfl ?_
    refine wq_getR (pc := 18) (z := 0) (b := 81) dM_least_18 fO_M_9 sh_80 rfl rfl (rf_80_0 hS) ?_
    refine wq_bipush (pc := 21) dM_least_21 rfl ?_
    refine wq_iald (pc := 23) dM_least_23 sh_81 (by decide) (by decide) ?_
    refine wq_iconst (pc := 24) dM_least_24 rfl ?_
    refine wq_isub (pc := 25) dM_least_25 ?_
    refine wq_re (x := (wr (gI M 81 6 - 1))) (y := (gI M 81 6 - 1)) (Eq.trans (wr_eq (by omega) (by omega)) (by omega)) ?_
    refine wq_i2l (pc := 26) dM_least_26 ?_
    refine wq_callS (d' := 1) (pc := 27) (as := [vL x2, vL (-1), vL (gI M 81 6 - 1)]) (rest := []) (lo' := [iL x2, none, iL ((-1)), none, iL (gI M 81 6 - 1), none]) dM_least_27 mO_M_within lS_M_68 rfl rfl rfl rfl rfl rfl ?_
    refine sp_M_within (fun c3 => ?_) (fun c3 => ?_)
    · have H := H.1 c3
      show Wq 7 0 0 mM_least 30 [iR 80, iI x1, iI x2, none] [vI 1] M _
      refine wq_if_ne (pc := 30) (tgt := 40) dM_least_30 (by decide) (fun _ => ?_) (fun q => absurd q (by decide))
      refine wq_aload_n (pc := 40) dM_least_40 rfl rfl ?_
      refine wq_iload_n (pc := 41) dM_least_41 rfl rfl ?_
      refine wq_callV (d' := 6) (pc := 42) (as := [vI x1]) (rest := []) (lo' := [iR 80, iI x1, none, none, none, none]) dM_least_42 mO_M_leastFor lV_M_280 sh_80 (by decide) cl_11 rfl rfl rfl rfl rfl rfl ?_
      exact H
    · have H := H.2 c3
      show Wq 7 0 0 mM_least 30 [iR 80, iI x1, iI x2, none] [vI 0] M _
      refine wq_if_ne (pc := 30) (tgt := 40) dM_least_30 (by decide) (fun q => absurd q (by decide)) (fun _ => ?_)
      refine wq_aload_n (pc := 33) dM_least_33 rfl rfl ?_
      refine wq_ldc (pc := 34) (z := (-1000001)) dM_least_34 kO_M_78 (by decide) ?_
      refine wq_callV (d' := 1) (pc := 36) (as := [vI (-1000001)]) (rest := []) (lo' := [iR 80, iI ((-1000001))]) dM_least_36 mO_M_finding lV_M_79 sh_80 (by decide) cl_11 rfl rfl rfl rfl rfl rfl ?_
      refine sp_M_finding (k := 1) (by decide) (by decide) (by decide) hS ?_
      show Wq 7 0 0 mM_least 39 [iR 80, iI x1, iI x2, none] [vI (-1000001)] (sI M 83 1 (wr (gI M 83 1 + 1))) _
      refine wq_ireturn (pc := 39) dM_least_39 trivial ?_
      exact H
  · have H := H.2 c1
    show Wq 7 0 0 mM_least 9 [iR 80, iI x1, iI x2, none] [vI 0] M _
    refine wq_if_eq (pc := 9) (tgt := 33) dM_least_9 (by decide) (fun _ => ?_) (fun q => absurd (by decide) q)
    refine wq_aload_n (pc := 33) dM_least_33 rfl rfl ?_
    refine wq_ldc (pc := 34) (z := (-1000001)) dM_least_34 kO_M_78 (by decide) ?_
    refine wq_callV (d' := 1) (pc := 36) (as := [vI (-1000001)]) (rest := []) (lo' := [iR 80, iI ((-1000001))]) dM_least_36 mO_M_finding lV_M_79 sh_80 (by decide) cl_11 rfl rfl rfl rfl rfl rfl ?_
    refine sp_M_finding (k := 1) (by decide) (by decide) (by decide) hS ?_
    show Wq 7 0 0 mM_least 39 [iR 80, iI x1, iI x2, none] [vI (-1000001)] (sI M 83 1 (wr (gI M 83 1 + 1))) _
    refine wq_ireturn (pc := 39) dM_least_39 trivial ?_
    exact H

set_option maxRecDepth 20000 in
theorem B_M_least_45 {x1 x2 y0 : Int} {M : Mm} {Q : Mm → Option Mv → Prop} (hS : RefOK M) (H : ((0 ≤ y0 → ((0 ≤ x2 → ((0 ≤ x2 ∧ x2 < 5) ∧ Q M (some (vI (gI M 97 x2))))) ∧ (¬ 0 ≤ x2 → Q M (some (vI y0))))) ∧ (¬ 0 ≤ y0 → Q (sI M 83 2 (wr (gI M 83 2 + 1))) (some (vI (-1000002)))))) : Wq 7 0 0 mM_least 45 [iR 80, iI x1, iI x2, none] [vI y0] M Q := by
  refine wq_istore_n (pc := 45) (lo' := [iR 80, iI x1, iI x2, iI y0]) dM_least_45 rfl rfl rfl ?_
  refine wq_iload_n (pc := 46) dM_least_46 rfl rfl ?_
  refine wq_if_ge (pc := 47) (tgt := 59) dM_least_47 (by decide) (fun c1 => ?_) (fun c1 => ?_)
  · have H := H.1 c1
    refine wq_iload_n (pc := 59) dM_least_59 rfl rfl ?_
    refine wq_if_ge (pc := 60) (tgt := 67) dM_least_60 (by decide) (fun c2 => ?_) (fun c2 => ?_)
    · have H := H.1 c2
      obtain ⟨s3, H⟩ := H
      refine wq_aload_n (pc := 67) dM_least_67 rfl rfl ?_
      refine wq_getR (pc := 68) (z := 23) (b := 97) dM_least_68 fO_M_58 sh_80 rfl rfl (rf_80_23 hS) ?_
      refine wq_iload_n (pc := 71) dM_least_71 rfl rfl ?_
      refine wq_iald (pc := 72) dM_least_72 sh_97 s3.1 s3.2 ?_
      refine wq_ireturn (pc := 73) dM_least_73 trivial ?_
      exact H
    · have H := H.2 c2
      refine wq_iload_n (pc := 63) dM_least_63 rfl rfl ?_
      refine wq_goto (pc := 64) (tgt := 73) dM_least_64 (by decide) ?_
      refine wq_ireturn (pc := 73) dM_least_73 trivial ?_
      exact H
  · have H := H.2 c1
    refine wq_aload_n (pc := 50) dM_least_50 rfl rfl ?_
    refine wq_ldc (pc := 51) (z := (-1000002)) dM_least_51 kO_M_114 (by decide) ?_
    refine wq_callV (d' := 1) (pc := 53) (as := [vI (-1000002)]) (rest := []) (lo' := [iR 80, iI ((-1000002))]) dM_least_53 mO_M_finding lV_M_79 sh_80 (by decide) cl_11 rfl rfl rfl rfl rfl rfl ?_
    refine sp_M_finding (k := 2) (by decide) (by decide) (by decide) hS ?_
    show Wq 7 0 0 mM_least 56 [iR 80, iI x1, iI x2, iI y0] [vI (-1000002)] (sI M 83 2 (wr (gI M 83 2 + 1))) _
    refine wq_goto (pc := 56) (tgt := 73) dM_least_56 (by decide) ?_
    refine wq_ireturn (pc := 73) dM_least_73 trivial ?_
    exact H
set_option maxRecDepth 20000 in
theorem B_M_proves_0 {x1 x2 x3 : Int} {M : Mm} {Q : Mm → Option Mv → Prop} (hS : RefOK M) (H : ((0 ≤ x1 ∧ x1 ≤ 3 → ((0 ≤ x2 ∧ x2 ≤ 9999 → ((0 ≤ x3 → ((0 ≤ x1 ∧ x1 < 4) ∧ ((¬ gI M 84 x1 = 0 → Wq 6 0 0 mM_proves 49 [iR 80, iI x1, iI x2, iI x3, iI 0] [] M Q) ∧ (gI M 84 x1 = 0 → Q (sI M 83 2 (wr (gI M 83 2 + 1))) (some (vI (-1000002))))))) ∧ (¬ 0 ≤ x3 → Q (sI M 83 1 (wr (gI M 83 1 + 1))) (some (vI (-1000001)))))) ∧ (¬ (0 ≤ x2 ∧ x2 ≤ 9999) → Q (sI M 83 1 (wr (gI M 83 1 + 1))) (some (vI (-1000001)))))) ∧ (¬ (0 ≤ x1 ∧ x1 ≤ 3) → Q (sI M 83 1 (wr (gI M 83 1 + 1))) (some (vI (-1000001)))))) : Wq 6 0 0 mM_proves 0 [iR 80, iI x1, iI x2, iI x3, none] [] M Q := by
  refine wq_iload_n (pc := 0) dM_proves_0 rfl rfl ?_
  refine wq_callS (d' := 2) (pc := 1) (as := [vI x1]) (rest := []) (lo' := [iI x1]) dM_proves_1 mO_M_isSheet lS_M_283 rfl rfl rfl rfl rfl rfl ?_
  refine sp_M_isSheet (fun c1 => ?_) (fun c1 => ?_)
  · have H := H.1 c1
    show Wq 6 0 0 mM_proves 4 [iR 80, iI x1, iI x2, iI x3, none] [vI 1] M _
    refine wq_if_eq (pc := 4) (tgt := 23) dM_proves_4 (by decide) (fun q => absurd q (by decide)) (fun _ => ?_)
    refine wq_iload_n (pc := 7) dM_proves_7 rfl rfl ?_
    refine wq_i2l (pc := 8) dM_proves_8 ?_
    refine wq_lconst (pc := 9) (x := 0) dM_proves_9 rfl rfl ?_
    refine wq_ldc2 (pc := 10) (z := 9999) dM_proves_10 kO_M_278 (by decide) ?_
    refine wq_callS (d' := 1) (pc := 13) (as := [vL x2, vL 0, vL 9999]) (rest := []) (lo' := [iL x2, none, iL 0, none, iL 9999, none]) dM_proves_13 mO_M_within lS_M_68 rfl rfl rfl rfl rfl rfl ?_
    refine sp_M_within (fun c2 => ?_) (fun c2 => ?_)
    · have H := H.1 c2
      show Wq 6 0 0 mM_proves 16 [iR 80, iI x1, iI x2, iI x3, none] [vI 1] M _
      refine wq_if_eq (pc := 16) (tgt := 23) dM_proves_16 (by decide) (fun q => absurd q (by decide)) (fun _ => ?_)
      refine wq_iload_n (pc := 19) dM_proves_19 rfl rfl ?_
      refine wq_if_ge (pc := 20) (tgt := 30) dM_proves_20 (by decide) (fun c3 => ?_) (fun c3 => ?_)
      · have H := H.1 c3
        obtain ⟨s4, H⟩ := H
        refine wq_aload_n (pc := 30) dM_proves_30 rfl rfl ?_
        refine wq_getR (pc := 31) (z := 4) (b := 84) dM_proves_31 fO_M_19 sh_80 rfl rfl (rf_80_4 hS) ?_
        refine wq_iload_n (pc := 34) dM_proves_34 rfl rfl ?_
        refine wq_iald (pc := 35) dM_proves_35 sh_84 s4.1 s4.2 ?_
        refine wq_if_ne (pc := 36) (tgt := 46) dM_proves_36 (by decide) (fun c5 => ?_) (fun c5 => ?_)
        · have H := H.1 c5
          refine wq_iconst (pc := 46) dM_proves_46 rfl ?_
          refine wq_istore (pc := 47) (lo' := [iR 80, iI x1, iI x2, iI x3, iI 0]) dM_proves_47 rfl rfl ?_
          exact H
        · have H := H.2 c5
          refine wq_aload_n (pc := 39) dM_proves_39 rfl rfl ?_
          refine wq_ldc (pc := 40) (z := (-1000002)) dM_proves_40 kO_M_114 (by decide) ?_
          refine wq_callV (d' := 1) (pc := 42) (as := [vI (-1000002)]) (rest := []) (lo' := [iR 80, iI ((-1000002))]) dM_proves_42 mO_M_finding lV_M_79 sh_80 (by decide) cl_11 rfl rfl rfl rfl rfl rfl ?_
          refine sp_M_finding (k := 2) (by decide) (by decide) (by decide) hS ?_
          show Wq 6 0 0 mM_proves 45 [iR 80, iI x1, iI x2, iI x3, none] [vI (-1000002)] (sI M 83 2 (wr (gI M 83 2 + 1))) _
          refine wq_ireturn (pc := 45) dM_proves_45 trivial ?_
          exact H
      · have H := H.2 c3
        refine wq_aload_n (pc := 23) dM_proves_23 rfl rfl ?_
        refine wq_ldc (pc := 24) (z := (-1000001)) dM_proves_24 kO_M_78 (by decide) ?_
        refine wq_callV (d' := 1) (pc := 26) (as := [vI (-1000001)]) (rest := []) (lo' := [iR 80, iI ((-1000001))]) dM_proves_26 mO_M_finding lV_M_79 sh_80 (by decide) cl_11 rfl rfl rfl rfl rfl rfl ?_
        refine sp_M_finding (k := 1) (by decide) (by decide) (by decide) hS ?_
        show Wq 6 0 0 mM_proves 29 [iR 80, iI x1, iI x2, iI x3, none] [vI (-1000001)] (sI M 83 1 (wr (gI M 83 1 + 1))) _
        refine wq_ireturn (pc := 29) dM_proves_29 trivial ?_
        exact H
    · have H := H.2 c2
      show Wq 6 0 0 mM_proves 16 [iR 80, iI x1, iI x2, iI x3, none] [vI 0] M _
      refine wq_if_eq (pc := 16) (tgt := 23) dM_proves_16 (by decide) (fun _ => ?_) (fun q => absurd (by decide) q)
      refine wq_aload_n (pc := 23) dM_proves_23 rfl rfl ?_
      refine wq_ldc (pc := 24) (z := (-1000001)) dM_proves_24 kO_M_78 (by decide) ?_
      refine wq_callV (d' := 1) (pc := 26) (as := [vI (-1000001)]) (rest := []) (lo' := [iR 80, iI ((-1000001))]) dM_proves_26 mO_M_finding lV_M_79 sh_80 (by decide) cl_11 rfl rfl rfl rfl rfl rfl ?_
      refine sp_M_finding (k := 1) (by decide) (by decide) (by decide) hS ?_
      show Wq 6 0 0 mM_proves 29 [iR 80, iI x1, iI x2, iI x3, none] [vI (-1000001)] (sI M 83 1 (wr (gI M 83 1 + 1))) _
      refine wq_ireturn (pc := 29) dM_proves_29 trivial ?_
      exact H
  · have H := H.2 c1
    show Wq 6 0 0 mM_proves 4 [iR 80, iI x1, iI x2, iI x3, none] [vI 0] M _
    refine wq_if_eq (pc := 4) (tgt := 23) dM_proves_4 (by decide) (fun _ => ?_) (fun q => absurd (by decide) q)
    refine wq_aload_n (pc := 23) dM_proves_23 rfl rfl ?_
    refine wq_ldc (pc := 24) (z := (-1000001)) dM_proves_24 kO_M_78 (by decide) ?_
    refine wq_callV (d' := 1) (pc := 26) (as := [vI (-1000001)]) (rest := []) (lo' := [iR 80, iI ((-1000001))]) dM_proves_26 mO_M_finding lV_M_79 sh_80 (by decide) cl_11 rfl rfl rfl rfl rfl rfl ?_
    refine sp_M_finding (k := 1) (by decide) (by decide) (by decide) hS ?_
    show Wq 6 0 0 mM_proves 29 [iR 80, iI x1, iI x2, iI x3, none] [vI (-1000001)] (sI M 83 1 (wr (gI M 83 1 + 1))) _
    refine wq_ireturn (pc := 29) dM_proves_29 trivial ?_
    exact H

set_option maxRecDepth 20000 in
theorem B_M_proves_49 {x1 x2 x3 x4 : Int} {M : Mm} {Q : Mm → Option Mv → Prop} (hS : RefOK M) (H : ((gI M 81 6 ≤ x4 → ((0 ≤ x1 ∧ x1 < 4) ∧ ((gI M 85 x1 ≤ gI M 81 6 → Wq 5 0 0 mM_endHurried 0 [iR 80, none] [] M (fun M' v => Wq 6 0 0 mM_proves 164 [iR 80, iI x1, iI x2, iI x3, iI x4] (v.toList ++ []) M' Q)) ∧ (¬ gI M 85 x1 ≤ gI M 81 6 → Q M (some (vI (gI M 81 6))))))) ∧ (¬ gI M 81 6 ≤ x4 → ((0 ≤ x1 ∧ x1 < 4) ∧ ((gI M 85 x1 ≤ x4 → Q M (some (vI x4))) ∧ (¬ gI M 85 x1 ≤ x4 → (((0 ≤ 24 * x1 + x4 ∧ 24 * x1 + x4 < 96) ∧ (0 ≤ 1019 + 3 * x4 ∧ 1019 + 3 * x4 < 1993)) ∧ ((0 ≤ gI M 86 (24 * x1 + x4) ∧ gI M 86 (24 * x1 + x4) ≤ gI M 81 (1019 + 3 * x4) → (((0 ≤ x4 ∧ x4 < 5) ∧ (-2147483648 ≤ x4 + 1 ∧ x4 + 1 < 2147483648)) ∧ Wq 6 0 0 mM_proves 49 [iR 80, iI x1, iI x2, iI x3, iI (x4 + 1)] [] (sI M 96 x4 (gI M 86 (24 * x1 + x4))) Q)) ∧ (¬ (0 ≤ gI M 86 (24 * x1 + x4) ∧ gI M 86 (24 * x1 + x4) ≤ gI M 81 (1019 + 3 * x4)) → Q M (some (vI x4))))))))))) : Wq 6 0 0 mM_proves 49 [iR 80, iI x1, iI x2, iI x3, iI x4] [] M Q := by
  refine wq_iload (pc := 49) dM_proves_49 rfl ?_
  refine wq_aload_n (pc := 51) dM_proves_51 rfl rfl ?_
  refine wq_getR (pc := 52) (z := 0) (b := 81) dM_proves_52 fO_M_9 sh_80 rfl rfl (rf_80_0 hS) ?_
  refine wq_bipush (pc := 55) dM_proves_55 rfl ?_
  refine wq_iald (pc := 57) dM_proves_57 sh_81 (by decide) (by decide) ?_
  refine wq_icmp_ge (pc := 58) (tgt := 136) dM_proves_58 (by decide) (fun c1 => ?_) (fun c1 => ?_)
  · have H := H.1 c1
    obtain ⟨s2, H⟩ := H
    refine wq_aload_n (pc := 136) dM_proves_136 rfl rfl ?_
    refine wq_getR (pc := 137) (z := 5) (b := 85) dM_proves_137 fO_M_22 sh_80 rfl rfl (rf_80_5 hS) ?_
    refine wq_iload_n (pc := 140) dM_proves_140 rfl rfl ?_
    refine wq_iald (pc := 141) dM_proves_141 sh_85 s2.1 s2.2 ?_
    refine wq_aload_n (pc := 142) dM_proves_142 rfl rfl ?_
    refine wq_getR (pc := 143) (z := 0) (b := 81) dM_proves_143 fO_M_9 sh_80 rfl rfl (rf_80_0 hS) ?_
    refine wq_bipush (pc := 146) dM_proves_146 rfl ?_
    refine wq_iald (pc := 148) dM_proves_148 sh_81 (by decide) (by decide) ?_
    refine wq_icmp_le (pc := 149) (tgt := 160) dM_proves_149 (by decide) (fun c3 => ?_) (fun c3 => ?_)
    · have H := H.1 c3
      refine wq_aload_n (pc := 160) dM_proves_160 rfl rfl ?_
      refine wq_callV (d' := 5) (pc := 161) (as := []) (rest := []) (lo' := [iR 80, none]) dM_proves_161 mO_M_endHurried lV_M_275 sh_80 (by decide) cl_11 rfl rfl rfl rfl rfl rfl ?_
      exact H
    · have H := H.2 c3
      refine wq_aload_n (pc := 152) dM_proves_152 rfl rfl ?_
      refine wq_getR (pc := 153) (z := 0) (b := 81) dM_proves_153 fO_M_9 sh_80 rfl rfl (rf_80_0 hS) ?_
      refine wq_bipush (pc := 156) dM_proves_156 rfl ?_
      refine wq_iald (pc := 158) dM_proves_158 sh_81 (by decide) (by decide) ?_
      refine wq_ireturn (pc := 159) dM_proves_159 trivial ?_
      exact H
  · have H := H.2 c1
    obtain ⟨s4, H⟩ := H
    refine wq_iload (pc := 61) dM_proves_61 rfl ?_
    refine wq_aload_n (pc := 63) dM_proves_63 rfl rfl ?_
    refine wq_getR (pc := 64) (z := 5) (b := 85) dM_proves_64 fO_M_22 sh_80 rfl rfl (rf_80_5 hS) ?_
    refine wq_iload_n (pc := 67) dM_proves_67 rfl rfl ?_
    refine wq_iald (pc := 68) dM_proves_68 sh_85 s4.1 s4.2 ?_
    refine wq_icmp_ge (pc := 69) (tgt := 108) dM_proves_69 (by decide) (fun c5 => ?_) (fun c5 => ?_)
    · have H := H.1 c5
      refine wq_iload (pc := 108) dM_proves_108 rfl ?_
      refine wq_ireturn (pc := 110) dM_proves_110 trivial ?_
      exact H
    · have H := H.2 c5
      obtain ⟨⟨s6, s7⟩, H⟩ := H
      refine wq_aload_n (pc := 72) dM_proves_72 rfl rfl ?_
      refine wq_getR (pc := 73) (z := 6) (b := 86) dM_proves_73 fO_M_25 sh_80 rfl rfl (rf_80_6 hS) ?_
      refine wq_bipush (pc := 76) dM_proves_76 rfl ?_
      refine wq_iload_n (pc := 78) dM_proves_78 rfl rfl ?_
      refine wq_imul (pc := 79) dM_proves_79 ?_
      refine wq_iload (pc := 80) dM_proves_80 rfl ?_
      refine wq_iadd (pc := 82) dM_proves_82 ?_
      refine wq_re (x := (wr (wr (24 * x1) + x4))) (y := (24 * x1 + x4)) (by (try simp only [wr_al, wr_ar, wr_sl, wr_sr, wr_ml, wr_mr, wr_nn, wr_ww]); exact Eq.trans (wr_eq (by omega) (by omega)) (by omega)) ?_
      refine wq_iald (pc := 83) dM_proves_83 sh_86 s6.1 s6.2 ?_
      refine wq_i2l (pc := 84) dM_proves_84 ?_
      refine wq_lconst (pc := 85) (x := 0) dM_proves_85 rfl rfl ?_
      refine wq_aload_n (pc := 86) dM_proves_86 rfl rfl ?_
      refine wq_getR (pc := 87) (z := 0) (b := 81) dM_proves_87 fO_M_9 sh_80 rfl rfl (rf_80_0 hS) ?_
      refine wq_sipush (pc := 90) dM_proves_90 rfl ?_
      refine wq_iconst (pc := 93) dM_proves_93 rfl ?_
      refine wq_iload (pc := 94) dM_proves_94 rfl ?_
      refine wq_imul (pc := 96) dM_proves_96 ?_
      refine wq_iadd (pc := 97) dM_proves_97 ?_
      refine wq_iconst (pc := 98) dM_proves_98 rfl ?_
      refine wq_iadd (pc := 99) dM_proves_99 ?_
      refine wq_re (x := (wr (wr (1018 + wr (3 * x4)) + 1))) (y := (1019 + 3 * x4)) (by (try simp only [wr_al, wr_ar, wr_sl, wr_sr, wr_ml, wr_mr, wr_nn, wr_ww]); exact Eq.trans (wr_eq (by omega) (by omega)) (by omega)) ?_
      refine wq_iald (pc := 100) dM_proves_100 sh_81 s7.1 s7.2 ?_
      refine wq_i2l (pc := 101) dM_proves_101 ?_
      refine wq_callS (d' := 1) (pc := 102) (as := [vL (gI M 86 (24 * x1 + x4)), vL 0, vL (gI M 81 (1019 + 3 * x4))]) (rest := []) (lo' := [iL (gI M 86 (24 * x1 + x4)), none, iL 0, none, iL (gI M 81 (1019 + 3 * x4)), none]) dM_proves_102 mO_M_within lS_M_68 rfl rfl rfl rfl rfl rfl ?_
      refine sp_M_within (fun c8 => ?_) (fun c8 => ?_)
      · have H := H.1 c8
        show Wq 6 0 0 mM_proves 105 [iR 80, iI x1, iI x2, iI x3, iI x4] [vI 1] M _
        obtain ⟨⟨s9, s10⟩, H⟩ := H
        refine wq_if_ne (pc := 105) (tgt := 111) dM_proves_105 (by decide) (fun _ => ?_) (fun q => absurd q (by decide))
        refine wq_aload_n (pc := 111) dM_proves_111 rfl rfl ?_
        refine wq_getR (pc := 112) (z := 22) (b := 96) dM_proves_112 fO_M_55 sh_80 rfl rfl (rf_80_22 hS) ?_
        refine wq_iload (pc := 115) dM_proves_115 rfl ?_
        refine wq_aload_n (pc := 117) dM_proves_117 rfl rfl ?_
        refine wq_getR (pc := 118) (z := 6) (b := 86) dM_proves_118 fO_M_25 sh_80 rfl rfl (rf_80_6 hS) ?_
        refine wq_bipush (pc := 121) dM_proves_121 rfl ?_
        refine wq_iload_n (pc := 123) dM_proves_123 rfl rfl ?_
        refine wq_imul (pc := 124) dM_proves_124 ?_
        refine wq_iload (pc := 125) dM_proves_125 rfl ?_
        refine wq_iadd (pc := 127) dM_proves_127 ?_
        refine wq_re (x := (wr (wr (24 * x1) + x4))) (y := (24 * x1 + x4)) (by (try simp only [wr_al, wr_ar, wr_sl, wr_sr, wr_ml, wr_mr, wr_nn, wr_ww]); exact Eq.trans (wr_eq (by omega) (by omega)) (by omega)) ?_
        refine wq_iald (pc := 128) dM_proves_128 sh_86 s6.1 s6.2 ?_
        refine wq_iast (pc := 129) dM_proves_129 sh_96 (by decide) s9.1 s9.2 ?_
        refine wq_iinc (pc := 130) (lo' := [iR 80, iI x1, iI x2, iI x3, iI (x4 + 1)]) dM_proves_130 rfl rfl (by rw [show wr (x4 + 1) = x4 + 1 from (Eq.trans (wr_eq (by omega) (by omega)) (by omega))]; rfl) ?_
        refine wq_goto (pc := 133) (tgt := 49) dM_proves_133 (by decide) ?_
        exact H
      · have H := H.2 c8
        show Wq 6 0 0 mM_proves 105 [iR 80, iI x1, iI x2, iI x3, iI x4] [vI 0] M _
        refine wq_if_ne (pc := 105) (tgt := 111) dM_proves_105 (by decide) (fun q => absurd q (by decide)) (fun _ => ?_)
        refine wq_iload (pc := 108) dM_proves_108 rfl ?_
        refine wq_ireturn (pc := 110) dM_proves_110 trivial ?_
        exact H

set_option maxRecDepth 20000 in
theorem B_M_proves_164 {x1 x2 x3 x4 y0 : Int} {M : Mm} {Q : Mm → Option Mv → Prop} (H : ((y0 ≤ x2 → Wq 1 0 0 mM_sumHurried 0 [iR 80, none, none] [] M (fun M' v => Wq 6 0 0 mM_proves 177 [iR 80, iI x1, iI x2, iI x3, iI x4] (v.toList ++ []) M' Q)) ∧ (¬ y0 ≤ x2 → Q M (some (vI 100))))) : Wq 6 0 0 mM_proves 164 [iR 80, iI x1, iI x2, iI x3, iI x4] [vI y0] M Q := by
  refine wq_iload_n (pc := 164) dM_proves_164 rfl rfl ?_
  refine wq_icmp_le (pc := 165) (tgt := 173) dM_proves_165 (by decide) (fun c1 => ?_) (fun c1 => ?_)
  · have H := H.1 c1
    refine wq_aload_n (pc := 173) dM_proves_173 rfl rfl ?_
    refine wq_callV (d' := 1) (pc := 174) (as := []) (rest := []) (lo' := [iR 80, none, none]) dM_proves_174 mO_M_sumHurried lV_M_272 sh_80 (by decide) cl_11 rfl rfl rfl rfl rfl rfl ?_
    exact H
  · have H := H.2 c1
    refine wq_bipush (pc := 168) dM_proves_168 rfl ?_
    refine wq_goto (pc := 170) (tgt := 187) dM_proves_170 (by decide) ?_
    refine wq_ireturn (pc := 187) dM_proves_187 trivial ?_
    exact H

set_option maxRecDepth 20000 in
theorem B_M_proves_177 {x1 x2 x3 x4 y0 : Int} {M : Mm} {Q : Mm → Option Mv → Prop} (H : ((y0 ≤ x3 → Q M (some (vI (-1)))) ∧ (¬ y0 ≤ x3 → Q M (some (vI 101))))) : Wq 6 0 0 mM_proves 177 [iR 80, iI x1, iI x2, iI x3, iI x4] [vI y0] M Q := by
  refine wq_iload_n (pc := 177) dM_proves_177 rfl rfl ?_
  refine wq_icmp_le (pc := 178) (tgt := 186) dM_proves_178 (by decide) (fun c1 => ?_) (fun c1 => ?_)
  · have H := H.1 c1
    refine wq_iconst (pc := 186) dM_proves_186 rfl ?_
    refine wq_ireturn (pc := 187) dM_proves_187 trivial ?_
    exact H
  · have H := H.2 c1
    refine wq_bipush (pc := 181) dM_proves_181 rfl ?_
    refine wq_goto (pc := 183) (tgt := 187) dM_proves_183 (by decide) ?_
    refine wq_ireturn (pc := 187) dM_proves_187 trivial ?_
    exact H
