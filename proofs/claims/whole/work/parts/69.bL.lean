set_option maxRecDepth 20000 in
theorem B_R_truth_0 {x0 : Int} {M : Mm} {Q : Mm → Option Mv → Prop} (H : ((x0 = 0 → Q M (some (vI 0))) ∧ (¬ x0 = 0 → Q M (some (vI 1))))) : Wq 1 0 0 mR_truth 0 [iI x0] [] M Q := by
  refine wq_iload_n (pc := 0) dR_truth_0 rfl rfl ?_
  refine wq_if_eq (pc := 1) (tgt := 8) dR_truth_1 (by decide) (fun c1 => ?_) (fun c1 => ?_)
  · have H := H.1 c1
    refine wq_iconst (pc := 8) dR_truth_8 rfl ?_
    refine wq_ireturn (pc := 9) dR_truth_9 trivial ?_
    exact H
  · have H := H.2 c1
    refine wq_iconst (pc := 4) dR_truth_4 rfl ?_
    refine wq_goto (pc := 5) (tgt := 9) dR_truth_5 (by decide) ?_
    refine wq_ireturn (pc := 9) dR_truth_9 trivial ?_
    exact H
set_option maxRecDepth 20000 in
theorem B_R_nameOf_0 {x0 : Int} {M : Mm} {Q : Mm → Option Mv → Prop} (H : ((x0 = 99 → Q M (some (vI 0))) ∧ (x0 = 100 → Q M (some (vI 1))) ∧ (x0 = 102 → Q M (some (vI 5))) ∧ (x0 = 107 → Q M (some (vI 2))) ∧ (x0 = 110 → Q M (some (vI 3))) ∧ (x0 = 116 → Q M (some (vI 4))) ∧ (¬ x0 = 99 ∧ ¬ x0 = 100 ∧ ¬ x0 = 102 ∧ ¬ x0 = 107 ∧ ¬ x0 = 110 ∧ ¬ x0 = 116 → Q M (some (vI (-1)))))) : Wq 1 0 0 mR_nameOf 0 [iI x0] [] M Q := by
  refine wq_iload_n (pc := 0) dR_nameOf_0 rfl rfl ?_
  by_cases c1 : x0 = 99
  · refine wq_tabIn (pc := 1) (tgt := 88) dR_nameOf_1 (by rw [c1]; decide) (by rw [c1]; decide) (by rw [c1]; rfl) (by decide) ?_
    have H := H.1 c1
    refine wq_iconst (pc := 88) dR_nameOf_88 rfl ?_
    refine wq_ireturn (pc := 89) dR_nameOf_89 trivial ?_
    exact H
  by_cases c2 : x0 = 100
  · refine wq_tabIn (pc := 1) (tgt := 90) dR_nameOf_1 (by rw [c2]; decide) (by rw [c2]; decide) (by rw [c2]; rfl) (by decide) ?_
    have H := H.2.1 c2
    refine wq_iconst (pc := 90) dR_nameOf_90 rfl ?_
    refine wq_ireturn (pc := 91) dR_nameOf_91 trivial ?_
    exact H
  by_cases c3 : x0 = 102
  · refine wq_tabIn (pc := 1) (tgt := 98) dR_nameOf_1 (by rw [c3]; decide) (by rw [c3]; decide) (by rw [c3]; rfl) (by decide) ?_
    have H := H.2.2.1 c3
    refine wq_iconst (pc := 98) dR_nameOf_98 rfl ?_
    refine wq_ireturn (pc := 99) dR_nameOf_99 trivial ?_
    exact H
  by_cases c4 : x0 = 107
  · refine wq_tabIn (pc := 1) (tgt := 92) dR_nameOf_1 (by rw [c4]; decide) (by rw [c4]; decide) (by rw [c4]; rfl) (by decide) ?_
    have H := H.2.2.2.1 c4
    refine wq_iconst (pc := 92) dR_nameOf_92 rfl ?_
    refine wq_ireturn (pc := 93) dR_nameOf_93 trivial ?_
    exact H
  by_cases c5 : x0 = 110
  · refine wq_tabIn (pc := 1) (tgt := 94) dR_nameOf_1 (by rw [c5]; decide) (by rw [c5]; decide) (by rw [c5]; rfl) (by decide) ?_
    have H := H.2.2.2.2.1 c5
    refine wq_iconst (pc := 94) dR_nameOf_94 rfl ?_
    refine wq_ireturn (pc := 95) dR_nameOf_95 trivial ?_
    exact H
  by_cases c6 : x0 = 116
  · refine wq_tabIn (pc := 1) (tgt := 96) dR_nameOf_1 (by rw [c6]; decide) (by rw [c6]; decide) (by rw [c6]; rfl) (by decide) ?_
    have H := H.2.2.2.2.2.1 c6
    refine wq_iconst (pc := 96) dR_nameOf_96 rfl ?_
    refine wq_ireturn (pc := 97) dR_nameOf_97 trivial ?_
    exact H
  by_cases c7 : x0 < 99 ∨ 116 < x0
  · refine wq_tabOut (pc := 1) (tgt := 100) dR_nameOf_1 c7 (by decide) ?_
    have H := H.2.2.2.2.2.2 (by omega)
    refine wq_iconst (pc := 100) dR_nameOf_100 rfl ?_
    refine wq_ireturn (pc := 101) dR_nameOf_101 trivial ?_
    exact H
  have c7r : x0 = 101 ∨ x0 = 103 ∨ x0 = 104 ∨ x0 = 105 ∨ x0 = 106 ∨ x0 = 108 ∨ x0 = 109 ∨ x0 = 111 ∨ x0 = 112 ∨ x0 = 113 ∨ x0 = 114 ∨ x0 = 115 := by omega
  rcases c7r with c7r | c7r | c7r | c7r | c7r | c7r | c7r | c7r | c7r | c7r | c7r | c7r
  · refine wq_tabIn (pc := 1) (tgt := 100) dR_nameOf_1 (by rw [c7r]; decide) (by rw [c7r]; decide) (by rw [c7r]; rfl) (by decide) ?_
    have H := H.2.2.2.2.2.2 (by omega)
    refine wq_iconst (pc := 100) dR_nameOf_100 rfl ?_
    refine wq_ireturn (pc := 101) dR_nameOf_101 trivial ?_
    exact H
  · refine wq_tabIn (pc := 1) (tgt := 100) dR_nameOf_1 (by rw [c7r]; decide) (by rw [c7r]; decide) (by rw [c7r]; rfl) (by decide) ?_
    have H := H.2.2.2.2.2.2 (by omega)
    refine wq_iconst (pc := 100) dR_nameOf_100 rfl ?_
    refine wq_ireturn (pc := 101) dR_nameOf_101 trivial ?_
    exact H
  · refine wq_tabIn (pc := 1) (tgt := 100) dR_nameOf_1 (by rw [c7r]; decide) (by rw [c7r]; decide) (by rw [c7r]; rfl) (by decide) ?_
    have H := H.2.2.2.2.2.2 (by omega)
    refine wq_iconst (pc := 100) dR_nameOf_100 rfl ?_
    refine wq_ireturn (pc := 101) dR_nameOf_101 trivial ?_
    exact H
  · refine wq_tabIn (pc := 1) (tgt := 100) dR_nameOf_1 (by rw [c7r]; decide) (by rw [c7r]; decide) (by rw [c7r]; rfl) (by decide) ?_
    have H := H.2.2.2.2.2.2 (by omega)
    refine wq_iconst (pc := 100) dR_nameOf_100 rfl ?_
    refine wq_ireturn (pc := 101) dR_nameOf_101 trivial ?_
    exact H
  · refine wq_tabIn (pc := 1) (tgt := 100) dR_nameOf_1 (by rw [c7r]; decide) (by rw [c7r]; decide) (by rw [c7r]; rfl) (by decide) ?_
    have H := H.2.2.2.2.2.2 (by omega)
    refine wq_iconst (pc := 100) dR_nameOf_100 rfl ?_
    refine wq_ireturn (pc := 101) dR_nameOf_101 trivial ?_
    exact H
  · refine wq_tabIn (pc := 1) (tgt := 100) dR_nameOf_1 (by rw [c7r]; decide) (by rw [c7r]; decide) (by rw [c7r]; rfl) (by decide) ?_
    have H := H.2.2.2.2.2.2 (by omega)
    refine wq_iconst (pc := 100) dR_nameOf_100 rfl ?_
    refine wq_ireturn (pc := 101) dR_nameOf_101 trivial ?_
    exact H
  · refine wq_tabIn (pc := 1) (tgt := 100) dR_nameOf_1 (by rw [c7r]; decide) (by rw [c7r]; decide) (by rw [c7r]; rfl) (by decide) ?_
    have H := H.2.2.2.2.2.2 (by omega)
    refine wq_iconst (pc := 100) dR_nameOf_100 rfl ?_
    refine wq_ireturn (pc := 101) dR_nameOf_101 trivial ?_
    exact H
  · refine wq_tabIn (pc := 1) (tgt := 100) dR_nameOf_1 (by rw [c7r]; decide) (by rw [c7r]; decide) (by rw [c7r]; rfl) (by decide) ?_
    have H := H.2.2.2.2.2.2 (by omega)
    refine wq_iconst (pc := 100) dR_nameOf_100 rfl ?_
    refine wq_ireturn (pc := 101) dR_nameOf_101 trivial ?_
    exact H
  · refine wq_tabIn (pc := 1) (tgt := 100) dR_nameOf_1 (by rw [c7r]; decide) (by rw [c7r]; decide) (by rw [c7r]; rfl) (by decide) ?_
    have H := H.2.2.2.2.2.2 (by omega)
    refine wq_iconst (pc := 100) dR_nameOf_100 rfl ?_
    refine wq_ireturn (pc := 101) dR_nameOf_101 trivial ?_
    exact H
  · refine wq_tabIn (pc := 1) (tgt := 100) dR_nameOf_1 (by rw [c7r]; decide) (by rw [c7r]; decide) (by rw [c7r]; rfl) (by decide) ?_
    have H := H.2.2.2.2.2.2 (by omega)
    refine wq_iconst (pc := 100) dR_nameOf_100 rfl ?_
    refine wq_ireturn (pc := 101) dR_nameOf_101 trivial ?_
    exact H
  · refine wq_tabIn (pc := 1) (tgt := 100) dR_nameOf_1 (by rw [c7r]; decide) (by rw [c7r]; decide) (by rw [c7r]; rfl) (by decide) ?_
    have H := H.2.2.2.2.2.2 (by omega)
    refine wq_iconst (pc := 100) dR_nameOf_100 rfl ?_
    refine wq_ireturn (pc := 101) dR_nameOf_101 trivial ?_
    exact H
  · refine wq_tabIn (pc := 1) (tgt := 100) dR_nameOf_1 (by rw [c7r]; decide) (by rw [c7r]; decide) (by rw [c7r]; rfl) (by decide) ?_
    have H := H.2.2.2.2.2.2 (by omega)
    refine wq_iconst (pc := 100) dR_nameOf_100 rfl ?_
    refine wq_ireturn (pc := 101) dR_nameOf_101 trivial ?_
    exact H
set_option maxRecDepth 20000 in
theorem B_R_fault_0 {M : Mm} {Q : Mm → Option Mv → Prop} (H : ((gI M 63 6 = 0 → Q M (some (vI (-1)))) ∧ (¬ gI M 63 6 = 0 → ((-2147483648 ≤ gI M 63 4 - gI M 63 2 ∧ gI M 63 4 - gI M 63 2 < 2147483648) ∧ Q M (some (vI (gI M 63 4 - gI M 63 2))))))) : Wq 1 0 0 mR_fault 0 [iR 63] [] M Q := by
  refine wq_aload_n (pc := 0) dR_fault_0 rfl rfl ?_
  refine wq_getI (pc := 1) (z := 6) dR_fault_1 fO_R_32 sh_63 rfl rfl ?_
  refine wq_if_eq (pc := 4) (tgt := 19) dR_fault_4 (by decide) (fun c1 => ?_) (fun c1 => ?_)
  · have H := H.1 c1
    refine wq_iconst (pc := 19) dR_fault_19 rfl ?_
    refine wq_ireturn (pc := 20) dR_fault_20 trivial ?_
    exact H
  · have H := H.2 c1
    obtain ⟨s2, H⟩ := H
    refine wq_aload_n (pc := 7) dR_fault_7 rfl rfl ?_
    refine wq_getI (pc := 8) (z := 4) dR_fault_8 fO_R_26 sh_63 rfl rfl ?_
    refine wq_aload_n (pc := 11) dR_fault_11 rfl rfl ?_
    refine wq_getI (pc := 12) (z := 2) dR_fault_12 fO_R_19 sh_63 rfl rfl ?_
    refine wq_isub (pc := 15) dR_fault_15 ?_
    refine wq_goto (pc := 16) (tgt := 20) dR_fault_16 (by decide) ?_
    refine wq_re (x := (wr (gI M 63 4 - gI M 63 2))) (y := (gI M 63 4 - gI M 63 2)) (Eq.trans (wr_eq (by omega) (by omega)) (by omega)) ?_
    refine wq_ireturn (pc := 20) dR_fault_20 trivial ?_
    exact H
set_option maxRecDepth 20000 in
theorem B_R_number_0 {M : Mm} {Q : Mm → Option Mv → Prop} (H : Wq 2 0 0 mR_number 4 [iR 63, iI 0, iI 0] [] M Q) : Wq 2 0 0 mR_number 0 [iR 63, none, none] [] M Q := by
  refine wq_iconst (pc := 0) dR_number_0 rfl ?_
  refine wq_istore_n (pc := 1) (lo' := [iR 63, iI 0, none]) dR_number_1 rfl rfl rfl ?_
  refine wq_iconst (pc := 2) dR_number_2 rfl ?_
  refine wq_istore_n (pc := 3) (lo' := [iR 63, iI 0, iI 0]) dR_number_3 rfl rfl rfl ?_
  exact H

set_option maxRecDepth 20000 in
theorem B_R_number_4 {x1 x2 : Int} {M : Mm} {Q : Mm → Option Mv → Prop} (H : ((4 ≤ x2 → Q M (some (vI x1))) ∧ (¬ 4 ≤ x2 → Wq 1 0 0 mR_next 0 [iR 63] [] M (fun M' v => Wq 2 0 0 mR_number 13 [iR 63, iI x1, iI x2] (v.toList ++ []) M' Q)))) : Wq 2 0 0 mR_number 4 [iR 63, iI x1, iI x2] [] M Q := by
  refine wq_iload_n (pc := 4) dR_number_4 rfl rfl ?_
  refine wq_iconst (pc := 5) dR_number_5 rfl ?_
  refine wq_icmp_ge (pc := 6) (tgt := 56) dR_number_6 (by decide) (fun c1 => ?_) (fun c1 => ?_)
  · have H := H.1 c1
    refine wq_iload_n (pc := 56) dR_number_56 rfl rfl ?_
    refine wq_ireturn (pc := 57) dR_number_57 trivial ?_
    exact H
  · have H := H.2 c1
    refine wq_aload_n (pc := 9) dR_number_9 rfl rfl ?_
    refine wq_callV (d' := 1) (pc := 10) (as := []) (rest := []) (lo' := [iR 63]) dR_number_10 mO_R_next lV_R_40 sh_63 (by decide) cl_5 rfl rfl rfl rfl rfl rfl ?_
    exact H

set_option maxRecDepth 20000 in
theorem B_R_number_13 {x1 x2 y0 : Int} {M : Mm} {Q : Mm → Option Mv → Prop} (H : ((y0 < 48 → Q M (some (vI x1))) ∧ (¬ y0 < 48 → Wq 1 0 0 mR_next 0 [iR 63] [] M (fun M' v => Wq 2 0 0 mR_number 22 [iR 63, iI x1, iI x2] (v.toList ++ []) M' Q)))) : Wq 2 0 0 mR_number 13 [iR 63, iI x1, iI x2] [vI y0] M Q := by
  refine wq_bipush (pc := 13) dR_number_13 rfl ?_
  refine wq_icmp_lt (pc := 15) (tgt := 56) dR_number_15 (by decide) (fun c1 => ?_) (fun c1 => ?_)
  · have H := H.1 c1
    refine wq_iload_n (pc := 56) dR_number_56 rfl rfl ?_
    refine wq_ireturn (pc := 57) dR_number_57 trivial ?_
    exact H
  · have H := H.2 c1
    refine wq_aload_n (pc := 18) dR_number_18 rfl rfl ?_
    refine wq_callV (d' := 1) (pc := 19) (as := []) (rest := []) (lo' := [iR 63]) dR_number_19 mO_R_next lV_R_40 sh_63 (by decide) cl_5 rfl rfl rfl rfl rfl rfl ?_
    exact H

set_option maxRecDepth 20000 in
theorem B_R_number_22 {x1 x2 y0 : Int} {M : Mm} {Q : Mm → Option Mv → Prop} (H : ((57 < y0 → Q M (some (vI x1))) ∧ (¬ 57 < y0 → Wq 1 0 0 mR_next 0 [iR 63] [] M (fun M' v => Wq 2 0 0 mR_number 35 [iR 63, iI x1, iI x2] (v.toList ++ [vI (wr (x1 * 10))]) M' Q)))) : Wq 2 0 0 mR_number 22 [iR 63, iI x1, iI x2] [vI y0] M Q := by
  refine wq_bipush (pc := 22) dR_number_22 rfl ?_
  refine wq_icmp_gt (pc := 24) (tgt := 56) dR_number_24 (by decide) (fun c1 => ?_) (fun c1 => ?_)
  · have H := H.1 c1
    refine wq_iload_n (pc := 56) dR_number_56 rfl rfl ?_
    refine wq_ireturn (pc := 57) dR_number_57 trivial ?_
    exact H
  · have H := H.2 c1
    refine wq_iload_n (pc := 27) dR_number_27 rfl rfl ?_
    refine wq_bipush (pc := 28) dR_number_28 rfl ?_
    refine wq_imul (pc := 30) dR_number_30 ?_
    refine wq_aload_n (pc := 31) dR_number_31 rfl rfl ?_
    refine wq_callV (d' := 1) (pc := 32) (as := []) (rest := [vI (wr (x1 * 10))]) (lo' := [iR 63]) dR_number_32 mO_R_next lV_R_40 sh_63 (by decide) cl_5 rfl rfl rfl rfl rfl rfl ?_
    exact H

set_option maxRecDepth 20000 in
theorem B_R_number_35 {x1 x2 y0 y1 : Int} {M : Mm} {Q : Mm → Option Mv → Prop} (H : (((-2147483648 ≤ y1 + y0 - 48 ∧ y1 + y0 - 48 < 2147483648) ∧ (-2147483648 ≤ gI M 63 4 + 1 ∧ gI M 63 4 + 1 < 2147483648) ∧ (-2147483648 ≤ x2 + 1 ∧ x2 + 1 < 2147483648)) ∧ Wq 2 0 0 mR_number 4 [iR 63, iI (y1 + y0 - 48), iI (x2 + 1)] [] (sI M 63 4 (gI M 63 4 + 1)) Q)) : Wq 2 0 0 mR_number 35 [iR 63, iI x1, iI x2] [vI y0, vI y1] M Q := by
  obtain ⟨⟨s1, s2, s3⟩, H⟩ := H
  refine wq_iadd (pc := 35) dR_number_35 ?_
  refine wq_bipush (pc := 36) dR_number_36 rfl ?_
  refine wq_isub (pc := 38) dR_number_38 ?_
  refine wq_re (x := (wr (wr (y1 + y0) - 48))) (y := (y1 + y0 - 48)) (by (try simp only [wr_al, wr_ar, wr_sl, wr_sr, wr_ml, wr_mr, wr_nn, wr_ww]); exact Eq.trans (wr_eq (by omega) (by omega)) (by omega)) ?_
  refine wq_istore_n (pc := 39) (lo' := [iR 63, iI (y1 + y0 - 48), iI x2]) dR_number_39 rfl rfl rfl ?_
  refine wq_aload_n (pc := 40) dR_number_40 rfl rfl ?_
  refine wq_dup (pc := 41) dR_number_41 rfl ?_
  refine wq_getI (pc := 42) (z := 4) dR_number_42 fO_R_26 sh_63 rfl rfl ?_
  refine wq_iconst (pc := 45) dR_number_45 rfl ?_
  refine wq_iadd (pc := 46) dR_number_46 ?_
  refine wq_re (x := (wr (gI M 63 4 + 1))) (y := (gI M 63 4 + 1)) (Eq.trans (wr_eq (by omega) (by omega)) (by omega)) ?_
  refine wq_putI (pc := 47) (z := 4) dR_number_47 fW_R_26 sh_63 rfl rfl ?_
  refine wq_iinc (pc := 50) (lo' := [iR 63, iI (y1 + y0 - 48), iI (x2 + 1)]) dR_number_50 rfl rfl (by rw [show wr (x2 + 1) = x2 + 1 from (Eq.trans (wr_eq (by omega) (by omega)) (by omega))]; rfl) ?_
  refine wq_goto (pc := 53) (tgt := 4) dR_number_53 (by decide) ?_
  exact H
set_option maxRecDepth 20000 in
theorem B_R_nextt_0 {M : Mm} {Q : Mm → Option Mv → Prop} (hB : gR M 63 1 = some 21) (H : ((¬ gI M 63 6 = 0 → Q M (some (vI (-1)))) ∧ (gI M 63 6 = 0 → ((gI M 63 4 < 0 → Q M (some (vI (-1)))) ∧ (¬ gI M 63 4 < 0 → ((gI M 63 3 ≤ gI M 63 4 → Q M (some (vI (-1)))) ∧ (¬ gI M 63 3 ≤ gI M 63 4 → ((60 ≤ gI M 63 4 → Q M (some (vI (-1)))) ∧ (¬ 60 ≤ gI M 63 4 → ((0 ≤ gI M 63 4 ∧ gI M 63 4 < 60) ∧ Q M (some (vI (bAnd (gI M 21 (gI M 63 4)) 255))))))))))))) : Wq 1 0 0 mR_next 0 [iR 63] [] M Q := by
  refine wq_aload_n (pc := 0) dR_next_0 rfl rfl ?_
  refine wq_getI (pc := 1) (z := 6) dR_next_1 fO_R_32 sh_63 rfl rfl ?_
  refine wq_if_ne (pc := 4) (tgt := 53) dR_next_4 (by decide) (fun c1 => ?_) (fun c1 => ?_)
  · have H := H.1 c1
    refine wq_iconst (pc := 53) dR_next_53 rfl ?_
    refine wq_ireturn (pc := 54) dR_next_54 trivial ?_
    exact H
  · have H := H.2 c1
    refine wq_aload_n (pc := 7) dR_next_7 rfl rfl ?_
    refine wq_getI (pc := 8) (z := 4) dR_next_8 fO_R_26 sh_63 rfl rfl ?_
    refine wq_if_lt (pc := 11) (tgt := 53) dR_next_11 (by decide) (fun c2 => ?_) (fun c2 => ?_)
    · have H := H.1 c2
      refine wq_iconst (pc := 53) dR_next_53 rfl ?_
      refine wq_ireturn (pc := 54) dR_next_54 trivial ?_
      exact H
    · have H := H.2 c2
      refine wq_aload_n (pc := 14) dR_next_14 rfl rfl ?_
      refine wq_getI (pc := 15) (z := 4) dR_next_15 fO_R_26 sh_63 rfl rfl ?_
      refine wq_aload_n (pc := 18) dR_next_18 rfl rfl ?_
      refine wq_getI (pc := 19) (z := 3) dR_next_19 fO_R_23 sh_63 rfl rfl ?_
      refine wq_icmp_ge (pc := 22) (tgt := 53) dR_next_22 (by decide) (fun c3 => ?_) (fun c3 => ?_)
      · have H := H.1 c3
        refine wq_iconst (pc := 53) dR_next_53 rfl ?_
        refine wq_ireturn (pc := 54) dR_next_54 trivial ?_
        exact H
      · have H := H.2 c3
        refine wq_aload_n (pc := 25) dR_next_25 rfl rfl ?_
        refine wq_getI (pc := 26) (z := 4) dR_next_26 fO_R_26 sh_63 rfl rfl ?_
        refine wq_aload_n (pc := 29) dR_next_29 rfl rfl ?_
        refine wq_getR (pc := 30) (z := 1) (b := 21) dR_next_30 fO_R_15 sh_63 rfl rfl hB ?_
        refine wq_balen (pc := 33) (z := 60) dR_next_33 sh_21 rfl (by decide) ?_
        refine wq_icmp_ge (pc := 34) (tgt := 53) dR_next_34 (by decide) (fun c4 => ?_) (fun c4 => ?_)
        · have H := H.1 c4
          refine wq_iconst (pc := 53) dR_next_53 rfl ?_
          refine wq_ireturn (pc := 54) dR_next_54 trivial ?_
          exact H
        · have H := H.2 c4
          obtain ⟨s5, H⟩ := H
          refine wq_aload_n (pc := 37) dR_next_37 rfl rfl ?_
          refine wq_getR (pc := 38) (z := 1) (b := 21) dR_next_38 fO_R_15 sh_63 rfl rfl hB ?_
          refine wq_aload_n (pc := 41) dR_next_41 rfl rfl ?_
          refine wq_getI (pc := 42) (z := 4) dR_next_42 fO_R_26 sh_63 rfl rfl ?_
          refine wq_bald (pc := 45) dR_next_45 sh_21 s5.1 s5.2 ?_
          refine wq_sipush (pc := 46) dR_next_46 rfl ?_
          refine wq_iand (pc := 49) dR_next_49 ?_
          refine wq_goto (pc := 50) (tgt := 54) dR_next_50 (by decide) ?_
          refine wq_ireturn (pc := 54) dR_next_54 trivial ?_
          exact H
set_option maxRecDepth 20000 in
theorem B_R_nextx_0 {M : Mm} {Q : Mm → Option Mv → Prop} (hB : gR M 63 1 = some 22) (H : ((¬ gI M 63 6 = 0 → Q M (some (vI (-1)))) ∧ (gI M 63 6 = 0 → ((gI M 63 4 < 0 → Q M (some (vI (-1)))) ∧ (¬ gI M 63 4 < 0 → ((gI M 63 3 ≤ gI M 63 4 → Q M (some (vI (-1)))) ∧ (¬ gI M 63 3 ≤ gI M 63 4 → ((600 ≤ gI M 63 4 → Q M (some (vI (-1)))) ∧ (¬ 600 ≤ gI M 63 4 → ((0 ≤ gI M 63 4 ∧ gI M 63 4 < 600) ∧ Q M (some (vI (bAnd (gI M 22 (gI M 63 4)) 255))))))))))))) : Wq 1 0 0 mR_next 0 [iR 63] [] M Q := by
  refine wq_aload_n (pc := 0) dR_next_0 rfl rfl ?_
  refine wq_getI (pc := 1) (z := 6) dR_next_1 fO_R_32 sh_63 rfl rfl ?_
  refine wq_if_ne (pc := 4) (tgt := 53) dR_next_4 (by decide) (fun c1 => ?_) (fun c1 => ?_)
  · have H := H.1 c1
    refine wq_iconst (pc := 53) dR_next_53 rfl ?_
    refine wq_ireturn (pc := 54) dR_next_54 trivial ?_
    exact H
  · have H := H.2 c1
    refine wq_aload_n (pc := 7) dR_next_7 rfl rfl ?_
    refine wq_getI (pc := 8) (z := 4) dR_next_8 fO_R_26 sh_63 rfl rfl ?_
    refine wq_if_lt (pc := 11) (tgt := 53) dR_next_11 (by decide) (fun c2 => ?_) (fun c2 => ?_)
    · have H := H.1 c2
      refine wq_iconst (pc := 53) dR_next_53 rfl ?_
      refine wq_ireturn (pc := 54) dR_next_54 trivial ?_
      exact H
    · have H := H.2 c2
      refine wq_aload_n (pc := 14) dR_next_14 rfl rfl ?_
      refine wq_getI (pc := 15) (z := 4) dR_next_15 fO_R_26 sh_63 rfl rfl ?_
      refine wq_aload_n (pc := 18) dR_next_18 rfl rfl ?_
      refine wq_getI (pc := 19) (z := 3) dR_next_19 fO_R_23 sh_63 rfl rfl ?_
      refine wq_icmp_ge (pc := 22) (tgt := 53) dR_next_22 (by decide) (fun c3 => ?_) (fun c3 => ?_)
      · have H := H.1 c3
        refine wq_iconst (pc := 53) dR_next_53 rfl ?_
        refine wq_ireturn (pc := 54) dR_next_54 trivial ?_
        exact H
      · have H := H.2 c3
        refine wq_aload_n (pc := 25) dR_next_25 rfl rfl ?_
        refine wq_getI (pc := 26) (z := 4) dR_next_26 fO_R_26 sh_63 rfl rfl ?_
        refine wq_aload_n (pc := 29) dR_next_29 rfl rfl ?_
        refine wq_getR (pc := 30) (z := 1) (b := 22) dR_next_30 fO_R_15 sh_63 rfl rfl hB ?_
        refine wq_balen (pc := 33) (z := 600) dR_next_33 sh_22 rfl (by decide) ?_
        refine wq_icmp_ge (pc := 34) (tgt := 53) dR_next_34 (by decide) (fun c4 => ?_) (fun c4 => ?_)
        · have H := H.1 c4
          refine wq_iconst (pc := 53) dR_next_53 rfl ?_
          refine wq_ireturn (pc := 54) dR_next_54 trivial ?_
          exact H
        · have H := H.2 c4
          obtain ⟨s5, H⟩ := H
          refine wq_aload_n (pc := 37) dR_next_37 rfl rfl ?_
          refine wq_getR (pc := 38) (z := 1) (b := 22) dR_next_38 fO_R_15 sh_63 rfl rfl hB ?_
          refine wq_aload_n (pc := 41) dR_next_41 rfl rfl ?_
          refine wq_getI (pc := 42) (z := 4) dR_next_42 fO_R_26 sh_63 rfl rfl ?_
          refine wq_bald (pc := 45) dR_next_45 sh_22 s5.1 s5.2 ?_
          refine wq_sipush (pc := 46) dR_next_46 rfl ?_
          refine wq_iand (pc := 49) dR_next_49 ?_
          refine wq_goto (pc := 50) (tgt := 54) dR_next_50 (by decide) ?_
          refine wq_ireturn (pc := 54) dR_next_54 trivial ?_
          exact H
set_option maxRecDepth 20000 in
theorem B_R_skip_0 {x1 : Int} {M : Mm} {Q : Mm → Option Mv → Prop} (H : Wq 1 0 0 mR_next 0 [iR 63] [] M (fun M' v => Wq 2 0 0 mR_skip 4 [iR 63, iI x1] (v.toList ++ []) M' Q)) : Wq 2 0 0 mR_skip 0 [iR 63, iI x1] [] M Q := by
  refine wq_aload_n (pc := 0) dR_skip_0 rfl rfl ?_
  refine wq_callV (d' := 1) (pc := 1) (as := []) (rest := []) (lo' := [iR 63]) dR_skip_1 mO_R_next lV_R_40 sh_63 (by decide) cl_5 rfl rfl rfl rfl rfl rfl ?_
  exact H

set_option maxRecDepth 20000 in
theorem B_R_skip_4 {x1 y0 : Int} {M : Mm} {Q : Mm → Option Mv → Prop} (H : ((y0 = x1 → ((-2147483648 ≤ gI M 63 4 + 1 ∧ gI M 63 4 + 1 < 2147483648) ∧ Q (sI M 63 4 (gI M 63 4 + 1)) (some (vI 1)))) ∧ (¬ y0 = x1 → Q M (some (vI 0))))) : Wq 2 0 0 mR_skip 4 [iR 63, iI x1] [vI y0] M Q := by
  refine wq_iload_n (pc := 4) dR_skip_4 rfl rfl ?_
  refine wq_icmp_eq (pc := 5) (tgt := 10) dR_skip_5 (by decide) (fun c1 => ?_) (fun c1 => ?_)
  · have H := H.1 c1
    obtain ⟨s2, H⟩ := H
    refine wq_aload_n (pc := 10) dR_skip_10 rfl rfl ?_
    refine wq_dup (pc := 11) dR_skip_11 rfl ?_
    refine wq_getI (pc := 12) (z := 4) dR_skip_12 fO_R_26 sh_63 rfl rfl ?_
    refine wq_iconst (pc := 15) dR_skip_15 rfl ?_
    refine wq_iadd (pc := 16) dR_skip_16 ?_
    refine wq_re (x := (wr (gI M 63 4 + 1))) (y := (gI M 63 4 + 1)) (Eq.trans (wr_eq (by omega) (by omega)) (by omega)) ?_
    refine wq_putI (pc := 17) (z := 4) dR_skip_17 fW_R_26 sh_63 rfl rfl ?_
    refine wq_iconst (pc := 20) dR_skip_20 rfl ?_
    refine wq_ireturn (pc := 21) dR_skip_21 (Or.inr rfl) ?_
    exact H
  · have H := H.2 c1
    refine wq_iconst (pc := 8) dR_skip_8 rfl ?_
    refine wq_ireturn (pc := 9) dR_skip_9 (Or.inl rfl) ?_
    exact H
set_option maxRecDepth 20000 in
theorem B_R_readt_0 {x2 x3 : Int} {M : Mm} {Q : Mm → Option Mv → Prop} (H : ((-2147483648 ≤ x2 + x3 ∧ x2 + x3 < 2147483648) ∧ Wq 50 0 0 mR_either 0 [iR 63, none, none, none] [] (sI (sI (sI (sI (sI (sR M 63 1 (some 21)) 63 2 x2) 63 3 (x2 + x3)) 63 4 x2) 63 5 0) 63 6 0) (fun M' v => Wq 51 0 0 mR_read 36 [iR 63, iR 21, iI x2, iI x3, none] (v.toList ++ []) M' Q))) : Wq 51 0 0 mR_read 0 [iR 63, iR 21, iI x2, iI x3, none] [] M Q := by
  obtain ⟨s1, H⟩ := H
  refine wq_aload_n (pc := 0) dR_read_0 rfl rfl ?_
  refine wq_aload_n (pc := 1) dR_read_1 rfl rfl ?_
  refine wq_putR (pc := 2) (z := 1) dR_read_2 fW_R_15 sh_63 rfl (fun h => by cases h) (fun _ => ⟨rfl, rfl⟩) rfl (by decide) ?_
  refine wq_aload_n (pc := 5) dR_read_5 rfl rfl ?_
  refine wq_iload_n (pc := 6) dR_read_6 rfl rfl ?_
  refine wq_putI (pc := 7) (z := 2) dR_read_7 fW_R_19 sh_63 rfl rfl ?_
  refine wq_aload_n (pc := 10) dR_read_10 rfl rfl ?_
  refine wq_iload_n (pc := 11) dR_read_11 rfl rfl ?_
  refine wq_iload_n (pc := 12) dR_read_12 rfl rfl ?_
  refine wq_iadd (pc := 13) dR_read_13 ?_
  refine wq_re (x := (wr (x2 + x3))) (y := (x2 + x3)) (Eq.trans (wr_eq (by omega) (by omega)) (by omega)) ?_
  refine wq_putI (pc := 14) (z := 3) dR_read_14 fW_R_23 sh_63 rfl rfl ?_
  refine wq_aload_n (pc := 17) dR_read_17 rfl rfl ?_
  refine wq_iload_n (pc := 18) dR_read_18 rfl rfl ?_
  refine wq_putI (pc := 19) (z := 4) dR_read_19 fW_R_26 sh_63 rfl rfl ?_
  refine wq_aload_n (pc := 22) dR_read_22 rfl rfl ?_
  refine wq_iconst (pc := 23) dR_read_23 rfl ?_
  refine wq_putI (pc := 24) (z := 5) dR_read_24 fW_R_29 sh_63 rfl rfl ?_
  refine wq_aload_n (pc := 27) dR_read_27 rfl rfl ?_
  refine wq_iconst (pc := 28) dR_read_28 rfl ?_
  refine wq_putZ (pc := 29) (z := 6) dR_read_29 fW_R_32 sh_63 rfl rfl (Or.inl rfl) ?_
  refine wq_aload_n (pc := 32) dR_read_32 rfl rfl ?_
  refine wq_callV (d' := 50) (pc := 33) (as := []) (rest := []) (lo' := [iR 63, none, none, none]) dR_read_33 mO_R_either lV_R_36 sh_63 (by decide) cl_5 rfl rfl rfl rfl rfl rfl ?_
  exact H

set_option maxRecDepth 20000 in
theorem B_R_readt_36 {x2 x3 y0 : Int} {M : Mm} {Q : Mm → Option Mv → Prop} (H : ((¬ gI M 63 6 = 0 → Q (sI M 63 6 1) (some (vI y0))) ∧ (gI M 63 6 = 0 → ((gI M 63 3 ≤ gI M 63 4 → Q (sI M 63 6 0) (some (vI y0))) ∧ (¬ gI M 63 3 ≤ gI M 63 4 → Q (sI M 63 6 1) (some (vI y0))))))) : Wq 51 0 0 mR_read 36 [iR 63, iR 21, iI x2, iI x3, none] [vI y0] M Q := by
  refine wq_istore (pc := 36) (lo' := [iR 63, iR 21, iI x2, iI x3, iI y0]) dR_read_36 rfl rfl ?_
  refine wq_aload_n (pc := 38) dR_read_38 rfl rfl ?_
  refine wq_aload_n (pc := 39) dR_read_39 rfl rfl ?_
  refine wq_getI (pc := 40) (z := 6) dR_read_40 fO_R_32 sh_63 rfl rfl ?_
  refine wq_if_ne (pc := 43) (tgt := 57) dR_read_43 (by decide) (fun c1 => ?_) (fun c1 => ?_)
  · have H := H.1 c1
    refine wq_iconst (pc := 57) dR_read_57 rfl ?_
    refine wq_goto (pc := 58) (tgt := 62) dR_read_58 (by decide) ?_
    refine wq_putZ (pc := 62) (z := 6) dR_read_62 fW_R_32 sh_63 rfl rfl (Or.inr rfl) ?_
    refine wq_iload (pc := 65) dR_read_65 rfl ?_
    refine wq_ireturn (pc := 67) dR_read_67 trivial ?_
    exact H
  · have H := H.2 c1
    refine wq_aload_n (pc := 46) dR_read_46 rfl rfl ?_
    refine wq_getI (pc := 47) (z := 4) dR_read_47 fO_R_26 sh_63 rfl rfl ?_
    refine wq_aload_n (pc := 50) dR_read_50 rfl rfl ?_
    refine wq_getI (pc := 51) (z := 3) dR_read_51 fO_R_23 sh_63 rfl rfl ?_
    refine wq_icmp_ge (pc := 54) (tgt := 61) dR_read_54 (by decide) (fun c2 => ?_) (fun c2 => ?_)
    · have H := H.1 c2
      refine wq_iconst (pc := 61) dR_read_61 rfl ?_
      refine wq_putZ (pc := 62) (z := 6) dR_read_62 fW_R_32 sh_63 rfl rfl (Or.inl rfl) ?_
      refine wq_iload (pc := 65) dR_read_65 rfl ?_
      refine wq_ireturn (pc := 67) dR_read_67 trivial ?_
      exact H
    · have H := H.2 c2
      refine wq_iconst (pc := 57) dR_read_57 rfl ?_
      refine wq_goto (pc := 58) (tgt := 62) dR_read_58 (by decide) ?_
      refine wq_putZ (pc := 62) (z := 6) dR_read_62 fW_R_32 sh_63 rfl rfl (Or.inr rfl) ?_
      refine wq_iload (pc := 65) dR_read_65 rfl ?_
      refine wq_ireturn (pc := 67) dR_read_67 trivial ?_
      exact H
set_option maxRecDepth 20000 in
theorem B_R_readx_0 {x2 x3 : Int} {M : Mm} {Q : Mm → Option Mv → Prop} (H : ((-2147483648 ≤ x2 + x3 ∧ x2 + x3 < 2147483648) ∧ Wq 50 0 0 mR_either 0 [iR 63, none, none, none] [] (sI (sI (sI (sI (sI (sR M 63 1 (some 22)) 63 2 x2) 63 3 (x2 + x3)) 63 4 x2) 63 5 0) 63 6 0) (fun M' v => Wq 51 0 0 mR_read 36 [iR 63, iR 22, iI x2, iI x3, none] (v.toList ++ []) M' Q))) : Wq 51 0 0 mR_read 0 [iR 63, iR 22, iI x2, iI x3, none] [] M Q := by
  obtain ⟨s1, H⟩ := H
  refine wq_aload_n (pc := 0) dR_read_0 rfl rfl ?_
  refine wq_aload_n (pc := 1) dR_read_1 rfl rfl ?_
  refine wq_putR (pc := 2) (z := 1) dR_read_2 fW_R_15 sh_63 rfl (fun h => by cases h) (fun _ => ⟨rfl, rfl⟩) rfl (by decide) ?_
  refine wq_aload_n (pc := 5) dR_read_5 rfl rfl ?_
  refine wq_iload_n (pc := 6) dR_read_6 rfl rfl ?_
  refine wq_putI (pc := 7) (z := 2) dR_read_7 fW_R_19 sh_63 rfl rfl ?_
  refine wq_aload_n (pc := 10) dR_read_10 rfl rfl ?_
  refine wq_iload_n (pc := 11) dR_read_11 rfl rfl ?_
  refine wq_iload_n (pc := 12) dR_read_12 rfl rfl ?_
  refine wq_iadd (pc := 13) dR_read_13 ?_
  refine wq_re (x := (wr (x2 + x3))) (y := (x2 + x3)) (Eq.trans (wr_eq (by omega) (by omega)) (by omega)) ?_
  refine wq_putI (pc := 14) (z := 3) dR_read_14 fW_R_23 sh_63 rfl rfl ?_
  refine wq_aload_n (pc := 17) dR_read_17 rfl rfl ?_
  refine wq_iload_n (pc := 18) dR_read_18 rfl rfl ?_
  refine wq_putI (pc := 19) (z := 4) dR_read_19 fW_R_26 sh_63 rfl rfl ?_
  refine wq_aload_n (pc := 22) dR_read_22 rfl rfl ?_
  refine wq_iconst (pc := 23) dR_read_23 rfl ?_
  refine wq_putI (pc := 24) (z := 5) dR_read_24 fW_R_29 sh_63 rfl rfl ?_
  refine wq_aload_n (pc := 27) dR_read_27 rfl rfl ?_
  refine wq_iconst (pc := 28) dR_read_28 rfl ?_
  refine wq_putZ (pc := 29) (z := 6) dR_read_29 fW_R_32 sh_63 rfl rfl (Or.inl rfl) ?_
  refine wq_aload_n (pc := 32) dR_read_32 rfl rfl ?_
  refine wq_callV (d' := 50) (pc := 33) (as := []) (rest := []) (lo' := [iR 63, none, none, none]) dR_read_33 mO_R_either lV_R_36 sh_63 (by decide) cl_5 rfl rfl rfl rfl rfl rfl ?_
  exact H

set_option maxRecDepth 20000 in
theorem B_R_readx_36 {x2 x3 y0 : Int} {M : Mm} {Q : Mm → Option Mv → Prop} (H : ((¬ gI M 63 6 = 0 → Q (sI M 63 6 1) (some (vI y0))) ∧ (gI M 63 6 = 0 → ((gI M 63 3 ≤ gI M 63 4 → Q (sI M 63 6 0) (some (vI y0))) ∧ (¬ gI M 63 3 ≤ gI M 63 4 → Q (sI M 63 6 1) (some (vI y0))))))) : Wq 51 0 0 mR_read 36 [iR 63, iR 22, iI x2, iI x3, none] [vI y0] M Q := by
  refine wq_istore (pc := 36) (lo' := [iR 63, iR 22, iI x2, iI x3, iI y0]) dR_read_36 rfl rfl ?_
  refine wq_aload_n (pc := 38) dR_read_38 rfl rfl ?_
  refine wq_aload_n (pc := 39) dR_read_39 rfl rfl ?_
  refine wq_getI (pc := 40) (z := 6) dR_read_40 fO_R_32 sh_63 rfl rfl ?_
  refine wq_if_ne (pc := 43) (tgt := 57) dR_read_43 (by decide) (fun c1 => ?_) (fun c1 => ?_)
  · have H := H.1 c1
    refine wq_iconst (pc := 57) dR_read_57 rfl ?_
    refine wq_goto (pc := 58) (tgt := 62) dR_read_58 (by decide) ?_
    refine wq_putZ (pc := 62) (z := 6) dR_read_62 fW_R_32 sh_63 rfl rfl (Or.inr rfl) ?_
    refine wq_iload (pc := 65) dR_read_65 rfl ?_
    refine wq_ireturn (pc := 67) dR_read_67 trivial ?_
    exact H
  · have H := H.2 c1
    refine wq_aload_n (pc := 46) dR_read_46 rfl rfl ?_
    refine wq_getI (pc := 47) (z := 4) dR_read_47 fO_R_26 sh_63 rfl rfl ?_
    refine wq_aload_n (pc := 50) dR_read_50 rfl rfl ?_
    refine wq_getI (pc := 51) (z := 3) dR_read_51 fO_R_23 sh_63 rfl rfl ?_
    refine wq_icmp_ge (pc := 54) (tgt := 61) dR_read_54 (by decide) (fun c2 => ?_) (fun c2 => ?_)
    · have H := H.1 c2
      refine wq_iconst (pc := 61) dR_read_61 rfl ?_
      refine wq_putZ (pc := 62) (z := 6) dR_read_62 fW_R_32 sh_63 rfl rfl (Or.inl rfl) ?_
      refine wq_iload (pc := 65) dR_read_65 rfl ?_
      refine wq_ireturn (pc := 67) dR_read_67 trivial ?_
      exact H
    · have H := H.2 c2
      refine wq_iconst (pc := 57) dR_read_57 rfl ?_
      refine wq_goto (pc := 58) (tgt := 62) dR_read_58 (by decide) ?_
      refine wq_putZ (pc := 62) (z := 6) dR_read_62 fW_R_32 sh_63 rfl rfl (Or.inr rfl) ?_
      refine wq_iload (pc := 65) dR_read_65 rfl ?_
      refine wq_ireturn (pc := 67) dR_read_67 trivial ?_
      exact H
set_option maxRecDepth 20000 in
theorem B_R_either_0 {d : Nat} {M : Mm} {Q : Mm → Option Mv → Prop} (H : Wq (d + 2) 0 0 mR_both 0 [iR 63, none, none, none] [] M (fun M' v => Wq (d + 3) 0 0 mR_either 4 [iR 63, none, none, none] (v.toList ++ []) M' Q)) : Wq (d + 3) 0 0 mR_either 0 [iR 63, none, none, none] [] M Q := by
  refine wq_aload_n (pc := 0) dR_either_0 rfl rfl ?_
  refine wq_callV (d' := (d + 2)) (pc := 1) (as := []) (rest := []) (lo' := [iR 63, none, none, none]) dR_either_1 mO_R_both lV_R_43 sh_63 (by decide) cl_5 rfl rfl rfl rfl rfl (blt_d d) ?_
  exact H

set_option maxRecDepth 20000 in
theorem B_R_either_4 {d : Nat} {y0 : Int} {M : Mm} {Q : Mm → Option Mv → Prop} (H : Wq (d + 3) 0 0 mR_either 7 [iR 63, iI y0, iI 0, none] [] M Q) : Wq (d + 3) 0 0 mR_either 4 [iR 63, none, none, none] [vI y0] M Q := by
  refine wq_istore_n (pc := 4) (lo' := [iR 63, iI y0, none, none]) dR_either_4 rfl rfl rfl ?_
  refine wq_iconst (pc := 5) dR_either_5 rfl ?_
  refine wq_istore_n (pc := 6) (lo' := [iR 63, iI y0, iI 0, none]) dR_either_6 rfl rfl rfl ?_
  exact H

set_option maxRecDepth 20000 in
theorem B_R_either_7 {d : Nat} {x1 x2 : Int} {M : Mm} {Q : Mm → Option Mv → Prop} (H : ((60 ≤ x2 → Q M (some (vI x1))) ∧ (¬ 60 ≤ x2 → Wq 2 0 0 mR_skip 0 [iR 63, iI 124] [] M (fun M' v => Wq (d + 3) 0 0 mR_either 19 [iR 63, iI x1, iI x2, none] (v.toList ++ []) M' Q)))) : Wq (d + 3) 0 0 mR_either 7 [iR 63, iI x1, iI x2, none] [] M Q := by
  refine wq_iload_n (pc := 7) dR_either_7 rfl rfl ?_
  refine wq_bipush (pc := 8) dR_either_8 rfl ?_
  refine wq_icmp_ge (pc := 10) (tgt := 50) dR_either_10 (by decide) (fun c1 => ?_) (fun c1 => ?_)
  · have H := H.1 c1
    refine wq_iload_n (pc := 50) dR_either_50 rfl rfl ?_
    refine wq_ireturn (pc := 51) dR_either_51 trivial ?_
    exact H
  · have H := H.2 c1
    refine wq_aload_n (pc := 13) dR_either_13 rfl rfl ?_
    refine wq_bipush (pc := 14) dR_either_14 rfl ?_
    refine wq_callV (d' := 2) (pc := 16) (as := [vI 124]) (rest := []) (lo' := [iR 63, iI 124]) dR_either_16 mO_R_skip lV_R_46 sh_63 (by decide) cl_5 rfl rfl rfl rfl rfl rfl ?_
    exact H

set_option maxRecDepth 20000 in
theorem B_R_either_19 {d : Nat} {x1 x2 y0 : Int} {M : Mm} {Q : Mm → Option Mv → Prop} (H : ((y0 = 0 → Q M (some (vI x1))) ∧ (¬ y0 = 0 → Wq (d + 2) 0 0 mR_both 0 [iR 63, none, none, none] [] M (fun M' v => Wq (d + 3) 0 0 mR_either 26 [iR 63, iI x1, iI x2, none] (v.toList ++ []) M' Q)))) : Wq (d + 3) 0 0 mR_either 19 [iR 63, iI x1, iI x2, none] [vI y0] M Q := by
  refine wq_if_eq (pc := 19) (tgt := 50) dR_either_19 (by decide) (fun c1 => ?_) (fun c1 => ?_)
  · have H := H.1 c1
    refine wq_iload_n (pc := 50) dR_either_50 rfl rfl ?_
    refine wq_ireturn (pc := 51) dR_either_51 trivial ?_
    exact H
  · have H := H.2 c1
    refine wq_aload_n (pc := 22) dR_either_22 rfl rfl ?_
    refine wq_callV (d' := (d + 2)) (pc := 23) (as := []) (rest := []) (lo' := [iR 63, none, none, none]) dR_either_23 mO_R_both lV_R_43 sh_63 (by decide) cl_5 rfl rfl rfl rfl rfl (blt_d d) ?_
    exact H

set_option maxRecDepth 20000 in
theorem B_R_either_26 {d : Nat} {x1 x2 y0 : Int} {M : Mm} {Q : Mm → Option Mv → Prop} (H : ((¬ x1 = 0 → Wq 1 0 0 mR_truth 0 [iI 1] [] M (fun M' v => Wq (d + 3) 0 0 mR_either 43 [iR 63, iI x1, iI x2, iI y0] (v.toList ++ []) M' Q)) ∧ (x1 = 0 → ((y0 = 0 → Wq 1 0 0 mR_truth 0 [iI 0] [] M (fun M' v => Wq (d + 3) 0 0 mR_either 43 [iR 63, iI x1, iI x2, iI y0] (v.toList ++ []) M' Q)) ∧ (¬ y0 = 0 → Wq 1 0 0 mR_truth 0 [iI 1] [] M (fun M' v => Wq (d + 3) 0 0 mR_either 43 [iR 63, iI x1, iI x2, iI y0] (v.toList ++ []) M' Q)))))) : Wq (d + 3) 0 0 mR_either 26 [iR 63, iI x1, iI x2, none] [vI y0] M Q := by
  refine wq_istore_n (pc := 26) (lo' := [iR 63, iI x1, iI x2, iI y0]) dR_either_26 rfl rfl rfl ?_
  refine wq_iload_n (pc := 27) dR_either_27 rfl rfl ?_
  refine wq_if_ne (pc := 28) (tgt := 35) dR_either_28 (by decide) (fun c1 => ?_) (fun c1 => ?_)
  · have H := H.1 c1
    refine wq_iconst (pc := 35) dR_either_35 rfl ?_
    refine wq_goto (pc := 36) (tgt := 40) dR_either_36 (by decide) ?_
    refine wq_callS (d' := 1) (pc := 40) (as := [vI 1]) (rest := []) (lo' := [iI 1]) dR_either_40 mO_R_truth lS_R_50 rfl rfl rfl rfl rfl rfl ?_
    exact H
  · have H := H.2 c1
    refine wq_iload_n (pc := 31) dR_either_31 rfl rfl ?_
    refine wq_if_eq (pc := 32) (tgt := 39) dR_either_32 (by decide) (fun c2 => ?_) (fun c2 => ?_)
    · have H := H.1 c2
      refine wq_iconst (pc := 39) dR_either_39 rfl ?_
      refine wq_callS (d' := 1) (pc := 40) (as := [vI 0]) (rest := []) (lo' := [iI 0]) dR_either_40 mO_R_truth lS_R_50 rfl rfl rfl rfl rfl rfl ?_
      exact H
    · have H := H.2 c2
      refine wq_iconst (pc := 35) dR_either_35 rfl ?_
      refine wq_goto (pc := 36) (tgt := 40) dR_either_36 (by decide) ?_
      refine wq_callS (d' := 1) (pc := 40) (as := [vI 1]) (rest := []) (lo' := [iI 1]) dR_either_40 mO_R_truth lS_R_50 rfl rfl rfl rfl rfl rfl ?_
      exact H

set_option maxRecDepth 20000 in
theorem B_R_either_43 {d : Nat} {x1 x2 x3 y0 : Int} {M : Mm} {Q : Mm → Option Mv → Prop} (H : ((-2147483648 ≤ x2 + 1 ∧ x2 + 1 < 2147483648) ∧ Wq (d + 3) 0 0 mR_either 7 [iR 63, iI y0, iI (x2 + 1), none] [] M Q)) : Wq (d + 3) 0 0 mR_either 43 [iR 63, iI x1, iI x2, iI x3] [vI y0] M Q := by
  obtain ⟨s1, H⟩ := H
  refine wq_istore_n (pc := 43) (lo' := [iR 63, iI y0, iI x2, iI x3]) dR_either_43 rfl rfl rfl ?_
  refine wq_iinc (pc := 44) (lo' := [iR 63, iI y0, iI (x2 + 1), iI x3]) dR_either_44 rfl rfl (by rw [show wr (x2 + 1) = x2 + 1 from (Eq.trans (wr_eq (by omega) (by omega)) (by omega))]; rfl) ?_
  refine wq_goto (pc := 47) (tgt := 7) dR_either_47 (by decide) ?_
  refine wq_drop [3] (lo' := [iR 63, iI y0, iI (x2 + 1), none]) rfl ?_
  exact H
set_option maxRecDepth 20000 in
theorem B_R_both_0 {d : Nat} {M : Mm} {Q : Mm → Option Mv → Prop} (H : Wq (d + 2) 0 0 mR_compared 0 [iR 63, none] [] M (fun M' v => Wq (d + 3) 0 0 mR_both 4 [iR 63, none, none, none] (v.toList ++ []) M' Q)) : Wq (d + 3) 0 0 mR_both 0 [iR 63, none, none, none] [] M Q := by
  refine wq_aload_n (pc := 0) dR_both_0 rfl rfl ?_
  refine wq_callV (d' := (d + 2)) (pc := 1) (as := []) (rest := []) (lo' := [iR 63, none]) dR_both_1 mO_R_compared lV_R_54 sh_63 (by decide) cl_5 rfl rfl rfl rfl rfl (blt_d d) ?_
  exact H

set_option maxRecDepth 20000 in
theorem B_R_both_4 {d : Nat} {y0 : Int} {M : Mm} {Q : Mm → Option Mv → Prop} (H : Wq (d + 3) 0 0 mR_both 7 [iR 63, iI y0, iI 0, none] [] M Q) : Wq (d + 3) 0 0 mR_both 4 [iR 63, none, none, none] [vI y0] M Q := by
  refine wq_istore_n (pc := 4) (lo' := [iR 63, iI y0, none, none]) dR_both_4 rfl rfl rfl ?_
  refine wq_iconst (pc := 5) dR_both_5 rfl ?_
  refine wq_istore_n (pc := 6) (lo' := [iR 63, iI y0, iI 0, none]) dR_both_6 rfl rfl rfl ?_
  exact H

set_option maxRecDepth 20000 in
theorem B_R_both_7 {d : Nat} {x1 x2 : Int} {M : Mm} {Q : Mm → Option Mv → Prop} (H : ((60 ≤ x2 → Q M (some (vI x1))) ∧ (¬ 60 ≤ x2 → Wq 2 0 0 mR_skip 0 [iR 63, iI 38] [] M (fun M' v => Wq (d + 3) 0 0 mR_both 19 [iR 63, iI x1, iI x2, none] (v.toList ++ []) M' Q)))) : Wq (d + 3) 0 0 mR_both 7 [iR 63, iI x1, iI x2, none] [] M Q := by
  refine wq_iload_n (pc := 7) dR_both_7 rfl rfl ?_
  refine wq_bipush (pc := 8) dR_both_8 rfl ?_
  refine wq_icmp_ge (pc := 10) (tgt := 50) dR_both_10 (by decide) (fun c1 => ?_) (fun c1 => ?_)
  · have H := H.1 c1
    refine wq_iload_n (pc := 50) dR_both_50 rfl rfl ?_
    refine wq_ireturn (pc := 51) dR_both_51 trivial ?_
    exact H
  · have H := H.2 c1
    refine wq_aload_n (pc := 13) dR_both_13 rfl rfl ?_
    refine wq_bipush (pc := 14) dR_both_14 rfl ?_
    refine wq_callV (d' := 2) (pc := 16) (as := [vI 38]) (rest := []) (lo' := [iR 63, iI 38]) dR_both_16 mO_R_skip lV_R_46 sh_63 (by decide) cl_5 rfl rfl rfl rfl rfl rfl ?_
    exact H

set_option maxRecDepth 20000 in
theorem B_R_both_19 {d : Nat} {x1 x2 y0 : Int} {M : Mm} {Q : Mm → Option Mv → Prop} (H : ((y0 = 0 → Q M (some (vI x1))) ∧ (¬ y0 = 0 → Wq (d + 2) 0 0 mR_compared 0 [iR 63, none] [] M (fun M' v => Wq (d + 3) 0 0 mR_both 26 [iR 63, iI x1, iI x2, none] (v.toList ++ []) M' Q)))) : Wq (d + 3) 0 0 mR_both 19 [iR 63, iI x1, iI x2, none] [vI y0] M Q := by
  refine wq_if_eq (pc := 19) (tgt := 50) dR_both_19 (by decide) (fun c1 => ?_) (fun c1 => ?_)
  · have H := H.1 c1
    refine wq_iload_n (pc := 50) dR_both_50 rfl rfl ?_
    refine wq_ireturn (pc := 51) dR_both_51 trivial ?_
    exact H
  · have H := H.2 c1
    refine wq_aload_n (pc := 22) dR_both_22 rfl rfl ?_
    refine wq_callV (d' := (d + 2)) (pc := 23) (as := []) (rest := []) (lo' := [iR 63, none]) dR_both_23 mO_R_compared lV_R_54 sh_63 (by decide) cl_5 rfl rfl rfl rfl rfl (blt_d d) ?_
    exact H

set_option maxRecDepth 20000 in
theorem B_R_both_26 {d : Nat} {x1 x2 y0 : Int} {M : Mm} {Q : Mm → Option Mv → Prop} (H : ((x1 = 0 → Wq 1 0 0 mR_truth 0 [iI 0] [] M (fun M' v => Wq (d + 3) 0 0 mR_both 43 [iR 63, iI x1, iI x2, iI y0] (v.toList ++ []) M' Q)) ∧ (¬ x1 = 0 → ((y0 = 0 → Wq 1 0 0 mR_truth 0 [iI 0] [] M (fun M' v => Wq (d + 3) 0 0 mR_both 43 [iR 63, iI x1, iI x2, iI y0] (v.toList ++ []) M' Q)) ∧ (¬ y0 = 0 → Wq 1 0 0 mR_truth 0 [iI 1] [] M (fun M' v => Wq (d + 3) 0 0 mR_both 43 [iR 63, iI x1, iI x2, iI y0] (v.toList ++ []) M' Q)))))) : Wq (d + 3) 0 0 mR_both 26 [iR 63, iI x1, iI x2, none] [vI y0] M Q := by
  refine wq_istore_n (pc := 26) (lo' := [iR 63, iI x1, iI x2, iI y0]) dR_both_26 rfl rfl rfl ?_
  refine wq_iload_n (pc := 27) dR_both_27 rfl rfl ?_
  refine wq_if_eq (pc := 28) (tgt := 39) dR_both_28 (by decide) (fun c1 => ?_) (fun c1 => ?_)
  · have H := H.1 c1
    refine wq_iconst (pc := 39) dR_both_39 rfl ?_
    refine wq_callS (d' := 1) (pc := 40) (as := [vI 0]) (rest := []) (lo' := [iI 0]) dR_both_40 mO_R_truth lS_R_50 rfl rfl rfl rfl rfl rfl ?_
    exact H
  · have H := H.2 c1
    refine wq_iload_n (pc := 31) dR_both_31 rfl rfl ?_
    refine wq_if_eq (pc := 32) (tgt := 39) dR_both_32 (by decide) (fun c2 => ?_) (fun c2 => ?_)
    · have H := H.1 c2
      refine wq_iconst (pc := 39) dR_both_39 rfl ?_
      refine wq_callS (d' := 1) (pc := 40) (as := [vI 0]) (rest := []) (lo' := [iI 0]) dR_both_40 mO_R_truth lS_R_50 rfl rfl rfl rfl rfl rfl ?_
      exact H
    · have H := H.2 c2
      refine wq_iconst (pc := 35) dR_both_35 rfl ?_
      refine wq_goto (pc := 36) (tgt := 40) dR_both_36 (by decide) ?_
      refine wq_callS (d' := 1) (pc := 40) (as := [vI 1]) (rest := []) (lo' := [iI 1]) dR_both_40 mO_R_truth lS_R_50 rfl rfl rfl rfl rfl rfl ?_
      exact H

set_option maxRecDepth 20000 in
theorem B_R_both_43 {d : Nat} {x1 x2 x3 y0 : Int} {M : Mm} {Q : Mm → Option Mv → Prop} (H : ((-2147483648 ≤ x2 + 1 ∧ x2 + 1 < 2147483648) ∧ Wq (d + 3) 0 0 mR_both 7 [iR 63, iI y0, iI (x2 + 1), none] [] M Q)) : Wq (d + 3) 0 0 mR_both 43 [iR 63, iI x1, iI x2, iI x3] [vI y0] M Q := by
  obtain ⟨s1, H⟩ := H
  refine wq_istore_n (pc := 43) (lo' := [iR 63, iI y0, iI x2, iI x3]) dR_both_43 rfl rfl rfl ?_
  refine wq_iinc (pc := 44) (lo' := [iR 63, iI y0, iI (x2 + 1), iI x3]) dR_both_44 rfl rfl (by rw [show wr (x2 + 1) = x2 + 1 from (Eq.trans (wr_eq (by omega) (by omega)) (by omega))]; rfl) ?_
  refine wq_goto (pc := 47) (tgt := 7) dR_both_47 (by decide) ?_
  refine wq_drop [3] (lo' := [iR 63, iI y0, iI (x2 + 1), none]) rfl ?_
  exact H
set_option maxRecDepth 20000 in
theorem B_R_compared_0 {d : Nat} {M : Mm} {Q : Mm → Option Mv → Prop} (H : Wq (d + 2) 0 0 mR_sum 0 [iR 63, none, none] [] M (fun M' v => Wq (d + 3) 0 0 mR_compared 4 [iR 63, none] (v.toList ++ []) M' Q)) : Wq (d + 3) 0 0 mR_compared 0 [iR 63, none] [] M Q := by
  refine wq_aload_n (pc := 0) dR_compared_0 rfl rfl ?_
  refine wq_callV (d' := (d + 2)) (pc := 1) (as := []) (rest := []) (lo' := [iR 63, none, none]) dR_compared_1 mO_R_sum lV_R_57 sh_63 (by decide) cl_5 rfl rfl rfl rfl rfl (blt_d d) ?_
  exact H

set_option maxRecDepth 20000 in
theorem B_R_compared_4 {d : Nat} {y0 : Int} {M : Mm} {Q : Mm → Option Mv → Prop} (H : Wq 2 0 0 mR_skip 0 [iR 63, iI 60] [] M (fun M' v => Wq (d + 3) 0 0 mR_compared 11 [iR 63, iI y0] (v.toList ++ []) M' Q)) : Wq (d + 3) 0 0 mR_compared 4 [iR 63, none] [vI y0] M Q := by
  refine wq_istore_n (pc := 4) (lo' := [iR 63, iI y0]) dR_compared_4 rfl rfl rfl ?_
  refine wq_aload_n (pc := 5) dR_compared_5 rfl rfl ?_
  refine wq_bipush (pc := 6) dR_compared_6 rfl ?_
  refine wq_callV (d' := 2) (pc := 8) (as := [vI 60]) (rest := []) (lo' := [iR 63, iI 60]) dR_compared_8 mO_R_skip lV_R_46 sh_63 (by decide) cl_5 rfl rfl rfl rfl rfl rfl ?_
  exact H

set_option maxRecDepth 20000 in
theorem B_R_compared_11 {d : Nat} {x1 y0 : Int} {M : Mm} {Q : Mm → Option Mv → Prop} (H : ((y0 = 0 → Wq 2 0 0 mR_skip 0 [iR 63, iI 61] [] M (fun M' v => Wq (d + 3) 0 0 mR_compared 37 [iR 63, iI x1] (v.toList ++ []) M' Q)) ∧ (¬ y0 = 0 → Wq (d + 2) 0 0 mR_sum 0 [iR 63, none, none] [] M (fun M' v => Wq (d + 3) 0 0 mR_compared 19 [iR 63, iI x1] (v.toList ++ [vI x1]) M' Q)))) : Wq (d + 3) 0 0 mR_compared 11 [iR 63, iI x1] [vI y0] M Q := by
  refine wq_if_eq (pc := 11) (tgt := 31) dR_compared_11 (by decide) (fun c1 => ?_) (fun c1 => ?_)
  · have H := H.1 c1
    refine wq_aload_n (pc := 31) dR_compared_31 rfl rfl ?_
    refine wq_bipush (pc := 32) dR_compared_32 rfl ?_
    refine wq_callV (d' := 2) (pc := 34) (as := [vI 61]) (rest := []) (lo' := [iR 63, iI 61]) dR_compared_34 mO_R_skip lV_R_46 sh_63 (by decide) cl_5 rfl rfl rfl rfl rfl rfl ?_
    exact H
  · have H := H.2 c1
    refine wq_iload_n (pc := 14) dR_compared_14 rfl rfl ?_
    refine wq_aload_n (pc := 15) dR_compared_15 rfl rfl ?_
    refine wq_callV (d' := (d + 2)) (pc := 16) (as := []) (rest := [vI x1]) (lo' := [iR 63, none, none]) dR_compared_16 mO_R_sum lV_R_57 sh_63 (by decide) cl_5 rfl rfl rfl rfl rfl (blt_d d) ?_
    exact H

set_option maxRecDepth 20000 in
theorem B_R_compared_19 {d : Nat} {x1 y0 y1 : Int} {M : Mm} {Q : Mm → Option Mv → Prop} (H : ((y0 ≤ y1 → Wq 1 0 0 mR_truth 0 [iI 0] [] M (fun M' v => Wq (d + 3) 0 0 mR_compared 30 [iR 63, iI x1] (v.toList ++ []) M' Q)) ∧ (¬ y0 ≤ y1 → Wq 1 0 0 mR_truth 0 [iI 1] [] M (fun M' v => Wq (d + 3) 0 0 mR_compared 30 [iR 63, iI x1] (v.toList ++ []) M' Q)))) : Wq (d + 3) 0 0 mR_compared 19 [iR 63, iI x1] [vI y0, vI y1] M Q := by
  refine wq_icmp_ge (pc := 19) (tgt := 26) dR_compared_19 (by decide) (fun c1 => ?_) (fun c1 => ?_)
  · have H := H.1 c1
    refine wq_iconst (pc := 26) dR_compared_26 rfl ?_
    refine wq_callS (d' := 1) (pc := 27) (as := [vI 0]) (rest := []) (lo' := [iI 0]) dR_compared_27 mO_R_truth lS_R_50 rfl rfl rfl rfl rfl rfl ?_
    exact H
  · have H := H.2 c1
    refine wq_iconst (pc := 22) dR_compared_22 rfl ?_
    refine wq_goto (pc := 23) (tgt := 27) dR_compared_23 (by decide) ?_
    refine wq_callS (d' := 1) (pc := 27) (as := [vI 1]) (rest := []) (lo' := [iI 1]) dR_compared_27 mO_R_truth lS_R_50 rfl rfl rfl rfl rfl rfl ?_
    exact H

set_option maxRecDepth 20000 in
theorem B_R_compared_30 {d : Nat} {x1 y0 : Int} {M : Mm} {Q : Mm → Option Mv → Prop} (H : Q M (some (vI y0))) : Wq (d + 3) 0 0 mR_compared 30 [iR 63, iI x1] [vI y0] M Q := by
  refine wq_ireturn (pc := 30) dR_compared_30 trivial ?_
  exact H

set_option maxRecDepth 20000 in
theorem B_R_compared_37 {d : Nat} {x1 y0 : Int} {M : Mm} {Q : Mm → Option Mv → Prop} (H : ((y0 = 0 → Wq 2 0 0 mR_skip 0 [iR 63, iI 62] [] M (fun M' v => Wq (d + 3) 0 0 mR_compared 63 [iR 63, iI x1] (v.toList ++ []) M' Q)) ∧ (¬ y0 = 0 → Wq (d + 2) 0 0 mR_sum 0 [iR 63, none, none] [] M (fun M' v => Wq (d + 3) 0 0 mR_compared 45 [iR 63, iI x1] (v.toList ++ [vI x1]) M' Q)))) : Wq (d + 3) 0 0 mR_compared 37 [iR 63, iI x1] [vI y0] M Q := by
  refine wq_if_eq (pc := 37) (tgt := 57) dR_compared_37 (by decide) (fun c1 => ?_) (fun c1 => ?_)
  · have H := H.1 c1
    refine wq_aload_n (pc := 57) dR_compared_57 rfl rfl ?_
    refine wq_bipush (pc := 58) dR_compared_58 rfl ?_
    refine wq_callV (d' := 2) (pc := 60) (as := [vI 62]) (rest := []) (lo' := [iR 63, iI 62]) dR_compared_60 mO_R_skip lV_R_46 sh_63 (by decide) cl_5 rfl rfl rfl rfl rfl rfl ?_
    exact H
  · have H := H.2 c1
    refine wq_iload_n (pc := 40) dR_compared_40 rfl rfl ?_
    refine wq_aload_n (pc := 41) dR_compared_41 rfl rfl ?_
    refine wq_callV (d' := (d + 2)) (pc := 42) (as := []) (rest := [vI x1]) (lo' := [iR 63, none, none]) dR_compared_42 mO_R_sum lV_R_57 sh_63 (by decide) cl_5 rfl rfl rfl rfl rfl (blt_d d) ?_
    exact H

set_option maxRecDepth 20000 in
theorem B_R_compared_45 {d : Nat} {x1 y0 y1 : Int} {M : Mm} {Q : Mm → Option Mv → Prop} (H : ((¬ y1 = y0 → Wq 1 0 0 mR_truth 0 [iI 0] [] M (fun M' v => Wq (d + 3) 0 0 mR_compared 56 [iR 63, iI x1] (v.toList ++ []) M' Q)) ∧ (y1 = y0 → Wq 1 0 0 mR_truth 0 [iI 1] [] M (fun M' v => Wq (d + 3) 0 0 mR_compared 56 [iR 63, iI x1] (v.toList ++ []) M' Q)))) : Wq (d + 3) 0 0 mR_compared 45 [iR 63, iI x1] [vI y0, vI y1] M Q := by
  refine wq_icmp_ne (pc := 45) (tgt := 52) dR_compared_45 (by decide) (fun c1 => ?_) (fun c1 => ?_)
  · have H := H.1 c1
    refine wq_iconst (pc := 52) dR_compared_52 rfl ?_
    refine wq_callS (d' := 1) (pc := 53) (as := [vI 0]) (rest := []) (lo' := [iI 0]) dR_compared_53 mO_R_truth lS_R_50 rfl rfl rfl rfl rfl rfl ?_
    exact H
  · have H := H.2 c1
    refine wq_iconst (pc := 48) dR_compared_48 rfl ?_
    refine wq_goto (pc := 49) (tgt := 53) dR_compared_49 (by decide) ?_
    refine wq_callS (d' := 1) (pc := 53) (as := [vI 1]) (rest := []) (lo' := [iI 1]) dR_compared_53 mO_R_truth lS_R_50 rfl rfl rfl rfl rfl rfl ?_
    exact H

set_option maxRecDepth 20000 in
theorem B_R_compared_56 {d : Nat} {x1 y0 : Int} {M : Mm} {Q : Mm → Option Mv → Prop} (H : Q M (some (vI y0))) : Wq (d + 3) 0 0 mR_compared 56 [iR 63, iI x1] [vI y0] M Q := by
  refine wq_ireturn (pc := 56) dR_compared_56 trivial ?_
  exact H

set_option maxRecDepth 20000 in
theorem B_R_compared_63 {d : Nat} {x1 y0 : Int} {M : Mm} {Q : Mm → Option Mv → Prop} (H : ((y0 = 0 → Q M (some (vI x1))) ∧ (¬ y0 = 0 → Wq (d + 2) 0 0 mR_sum 0 [iR 63, none, none] [] M (fun M' v => Wq (d + 3) 0 0 mR_compared 71 [iR 63, iI x1] (v.toList ++ [vI x1]) M' Q)))) : Wq (d + 3) 0 0 mR_compared 63 [iR 63, iI x1] [vI y0] M Q := by
  refine wq_if_eq (pc := 63) (tgt := 83) dR_compared_63 (by decide) (fun c1 => ?_) (fun c1 => ?_)
  · have H := H.1 c1
    refine wq_iload_n (pc := 83) dR_compared_83 rfl rfl ?_
    refine wq_ireturn (pc := 84) dR_compared_84 trivial ?_
    exact H
  · have H := H.2 c1
    refine wq_iload_n (pc := 66) dR_compared_66 rfl rfl ?_
    refine wq_aload_n (pc := 67) dR_compared_67 rfl rfl ?_
    refine wq_callV (d' := (d + 2)) (pc := 68) (as := []) (rest := [vI x1]) (lo' := [iR 63, none, none]) dR_compared_68 mO_R_sum lV_R_57 sh_63 (by decide) cl_5 rfl rfl rfl rfl rfl (blt_d d) ?_
    exact H

set_option maxRecDepth 20000 in
theorem B_R_compared_71 {d : Nat} {x1 y0 y1 : Int} {M : Mm} {Q : Mm → Option Mv → Prop} (H : ((y1 ≤ y0 → Wq 1 0 0 mR_truth 0 [iI 0] [] M (fun M' v => Wq (d + 3) 0 0 mR_compared 82 [iR 63, iI x1] (v.toList ++ []) M' Q)) ∧ (¬ y1 ≤ y0 → Wq 1 0 0 mR_truth 0 [iI 1] [] M (fun M' v => Wq (d + 3) 0 0 mR_compared 82 [iR 63, iI x1] (v.toList ++ []) M' Q)))) : Wq (d + 3) 0 0 mR_compared 71 [iR 63, iI x1] [vI y0, vI y1] M Q := by
  refine wq_icmp_le (pc := 71) (tgt := 78) dR_compared_71 (by decide) (fun c1 => ?_) (fun c1 => ?_)
  · have H := H.1 c1
    refine wq_iconst (pc := 78) dR_compared_78 rfl ?_
    refine wq_callS (d' := 1) (pc := 79) (as := [vI 0]) (rest := []) (lo' := [iI 0]) dR_compared_79 mO_R_truth lS_R_50 rfl rfl rfl rfl rfl rfl ?_
    exact H
  · have H := H.2 c1
    refine wq_iconst (pc := 74) dR_compared_74 rfl ?_
    refine wq_goto (pc := 75) (tgt := 79) dR_compared_75 (by decide) ?_
    refine wq_callS (d' := 1) (pc := 79) (as := [vI 1]) (rest := []) (lo' := [iI 1]) dR_compared_79 mO_R_truth lS_R_50 rfl rfl rfl rfl rfl rfl ?_
    exact H

set_option maxRecDepth 20000 in
theorem B_R_compared_82 {d : Nat} {x1 y0 : Int} {M : Mm} {Q : Mm → Option Mv → Prop} (H : Q M (some (vI y0))) : Wq (d + 3) 0 0 mR_compared 82 [iR 63, iI x1] [vI y0] M Q := by
  refine wq_ireturn (pc := 82) dR_compared_82 trivial ?_
  exact H
set_option maxRecDepth 20000 in
theorem B_R_sum_0 {d : Nat} {M : Mm} {Q : Mm → Option Mv → Prop} (H : Wq (d + 2) 0 0 mR_product 0 [iR 63, none, none, none] [] M (fun M' v => Wq (d + 3) 0 0 mR_sum 4 [iR 63, none, none] (v.toList ++ []) M' Q)) : Wq (d + 3) 0 0 mR_sum 0 [iR 63, none, none] [] M Q := by
  refine wq_aload_n (pc := 0) dR_sum_0 rfl rfl ?_
  refine wq_callV (d' := (d + 2)) (pc := 1) (as := []) (rest := []) (lo' := [iR 63, none, none, none]) dR_sum_1 mO_R_product lV_R_60 sh_63 (by decide) cl_5 rfl rfl rfl rfl rfl (blt_d d) ?_
  exact H

set_option maxRecDepth 20000 in
theorem B_R_sum_4 {d : Nat} {y0 : Int} {M : Mm} {Q : Mm → Option Mv → Prop} (H : Wq (d + 3) 0 0 mR_sum 7 [iR 63, iI y0, iI 0] [] M Q) : Wq (d + 3) 0 0 mR_sum 4 [iR 63, none, none] [vI y0] M Q := by
  refine wq_istore_n (pc := 4) (lo' := [iR 63, iI y0, none]) dR_sum_4 rfl rfl rfl ?_
  refine wq_iconst (pc := 5) dR_sum_5 rfl ?_
  refine wq_istore_n (pc := 6) (lo' := [iR 63, iI y0, iI 0]) dR_sum_6 rfl rfl rfl ?_
  exact H

set_option maxRecDepth 20000 in
theorem B_R_sum_7 {d : Nat} {x1 x2 : Int} {M : Mm} {Q : Mm → Option Mv → Prop} (H : ((60 ≤ x2 → Q M (some (vI x1))) ∧ (¬ 60 ≤ x2 → Wq 2 0 0 mR_skip 0 [iR 63, iI 43] [] M (fun M' v => Wq (d + 3) 0 0 mR_sum 19 [iR 63, iI x1, iI x2] (v.toList ++ []) M' Q)))) : Wq (d + 3) 0 0 mR_sum 7 [iR 63, iI x1, iI x2] [] M Q := by
  refine wq_iload_n (pc := 7) dR_sum_7 rfl rfl ?_
  refine wq_bipush (pc := 8) dR_sum_8 rfl ?_
  refine wq_icmp_ge (pc := 10) (tgt := 59) dR_sum_10 (by decide) (fun c1 => ?_) (fun c1 => ?_)
  · have H := H.1 c1
    refine wq_iload_n (pc := 59) dR_sum_59 rfl rfl ?_
    refine wq_ireturn (pc := 60) dR_sum_60 trivial ?_
    exact H
  · have H := H.2 c1
    refine wq_aload_n (pc := 13) dR_sum_13 rfl rfl ?_
    refine wq_bipush (pc := 14) dR_sum_14 rfl ?_
    refine wq_callV (d' := 2) (pc := 16) (as := [vI 43]) (rest := []) (lo' := [iR 63, iI 43]) dR_sum_16 mO_R_skip lV_R_46 sh_63 (by decide) cl_5 rfl rfl rfl rfl rfl rfl ?_
    exact H

set_option maxRecDepth 20000 in
theorem B_R_sum_19 {d : Nat} {x1 x2 y0 : Int} {M : Mm} {Q : Mm → Option Mv → Prop} (H : ((y0 = 0 → Wq 2 0 0 mR_skip 0 [iR 63, iI 45] [] M (fun M' v => Wq (d + 3) 0 0 mR_sum 38 [iR 63, iI x1, iI x2] (v.toList ++ []) M' Q)) ∧ (¬ y0 = 0 → Wq (d + 2) 0 0 mR_product 0 [iR 63, none, none, none] [] M (fun M' v => Wq (d + 3) 0 0 mR_sum 27 [iR 63, iI x1, iI x2] (v.toList ++ [vI x1]) M' Q)))) : Wq (d + 3) 0 0 mR_sum 19 [iR 63, iI x1, iI x2] [vI y0] M Q := by
  refine wq_if_eq (pc := 19) (tgt := 32) dR_sum_19 (by decide) (fun c1 => ?_) (fun c1 => ?_)
  · have H := H.1 c1
    refine wq_aload_n (pc := 32) dR_sum_32 rfl rfl ?_
    refine wq_bipush (pc := 33) dR_sum_33 rfl ?_
    refine wq_callV (d' := 2) (pc := 35) (as := [vI 45]) (rest := []) (lo' := [iR 63, iI 45]) dR_sum_35 mO_R_skip lV_R_46 sh_63 (by decide) cl_5 rfl rfl rfl rfl rfl rfl ?_
    exact H
  · have H := H.2 c1
    refine wq_iload_n (pc := 22) dR_sum_22 rfl rfl ?_
    refine wq_aload_n (pc := 23) dR_sum_23 rfl rfl ?_
    refine wq_callV (d' := (d + 2)) (pc := 24) (as := []) (rest := [vI x1]) (lo' := [iR 63, none, none, none]) dR_sum_24 mO_R_product lV_R_60 sh_63 (by decide) cl_5 rfl rfl rfl rfl rfl (blt_d d) ?_
    exact H

set_option maxRecDepth 20000 in
theorem B_R_sum_27 {d : Nat} {x1 x2 y0 y1 : Int} {M : Mm} {Q : Mm → Option Mv → Prop} (H : Wq (d + 3) 0 0 mR_sum 7 [iR 63, iI (wr (y1 + y0)), iI (wr (x2 + 1))] [] M Q) : Wq (d + 3) 0 0 mR_sum 27 [iR 63, iI x1, iI x2] [vI y0, vI y1] M Q := by
  refine wq_iadd (pc := 27) dR_sum_27 ?_
  refine wq_istore_n (pc := 28) (lo' := [iR 63, iI (wr (y1 + y0)), iI x2]) dR_sum_28 rfl rfl rfl ?_
  refine wq_goto (pc := 29) (tgt := 53) dR_sum_29 (by decide) ?_
  refine wq_iinc (pc := 53) (lo' := [iR 63, iI (wr (y1 + y0)), iI (wr (x2 + 1))]) dR_sum_53 rfl rfl rfl ?_
  refine wq_goto (pc := 56) (tgt := 7) dR_sum_56 (by decide) ?_
  exact H

set_option maxRecDepth 20000 in
theorem B_R_sum_38 {d : Nat} {x1 x2 y0 : Int} {M : Mm} {Q : Mm → Option Mv → Prop} (H : ((y0 = 0 → Q M (some (vI x1))) ∧ (¬ y0 = 0 → Wq (d + 2) 0 0 mR_product 0 [iR 63, none, none, none] [] M (fun M' v => Wq (d + 3) 0 0 mR_sum 46 [iR 63, iI x1, iI x2] (v.toList ++ [vI x1]) M' Q)))) : Wq (d + 3) 0 0 mR_sum 38 [iR 63, iI x1, iI x2] [vI y0] M Q := by
  refine wq_if_eq (pc := 38) (tgt := 51) dR_sum_38 (by decide) (fun c1 => ?_) (fun c1 => ?_)
  · have H := H.1 c1
    refine wq_iload_n (pc := 51) dR_sum_51 rfl rfl ?_
    refine wq_ireturn (pc := 52) dR_sum_52 trivial ?_
    exact H
  · have H := H.2 c1
    refine wq_iload_n (pc := 41) dR_sum_41 rfl rfl ?_
    refine wq_aload_n (pc := 42) dR_sum_42 rfl rfl ?_
    refine wq_callV (d' := (d + 2)) (pc := 43) (as := []) (rest := [vI x1]) (lo' := [iR 63, none, none, none]) dR_sum_43 mO_R_product lV_R_60 sh_63 (by decide) cl_5 rfl rfl rfl rfl rfl (blt_d d) ?_
    exact H

set_option maxRecDepth 20000 in
theorem B_R_sum_46 {d : Nat} {x1 x2 y0 y1 : Int} {M : Mm} {Q : Mm → Option Mv → Prop} (H : Wq (d + 3) 0 0 mR_sum 7 [iR 63, iI (wr (y1 - y0)), iI (wr (x2 + 1))] [] M Q) : Wq (d + 3) 0 0 mR_sum 46 [iR 63, iI x1, iI x2] [vI y0, vI y1] M Q := by
  refine wq_isub (pc := 46) dR_sum_46 ?_
  refine wq_istore_n (pc := 47) (lo' := [iR 63, iI (wr (y1 - y0)), iI x2]) dR_sum_47 rfl rfl rfl ?_
  refine wq_goto (pc := 48) (tgt := 53) dR_sum_48 (by decide) ?_
  refine wq_iinc (pc := 53) (lo' := [iR 63, iI (wr (y1 - y0)), iI (wr (x2 + 1))]) dR_sum_53 rfl rfl rfl ?_
  refine wq_goto (pc := 56) (tgt := 7) dR_sum_56 (by decide) ?_
  exact H
set_option maxRecDepth 20000 in
theorem B_R_product_0 {d : Nat} {M : Mm} {Q : Mm → Option Mv → Prop} (H : Wq (d + 2) 0 0 mR_single 0 [iR 63, none, none] [] M (fun M' v => Wq (d + 3) 0 0 mR_product 4 [iR 63, none, none, none] (v.toList ++ []) M' Q)) : Wq (d + 3) 0 0 mR_product 0 [iR 63, none, none, none] [] M Q := by
  refine wq_aload_n (pc := 0) dR_product_0 rfl rfl ?_
  refine wq_callV (d' := (d + 2)) (pc := 1) (as := []) (rest := []) (lo' := [iR 63, none, none]) dR_product_1 mO_R_single lV_R_63 sh_63 (by decide) cl_5 rfl rfl rfl rfl rfl (blt_d d) ?_
  exact H

set_option maxRecDepth 20000 in
theorem B_R_product_4 {d : Nat} {y0 : Int} {M : Mm} {Q : Mm → Option Mv → Prop} (H : Wq (d + 3) 0 0 mR_product 7 [iR 63, iI y0, iI 0, none] [] M Q) : Wq (d + 3) 0 0 mR_product 4 [iR 63, none, none, none] [vI y0] M Q := by
  refine wq_istore_n (pc := 4) (lo' := [iR 63, iI y0, none, none]) dR_product_4 rfl rfl rfl ?_
  refine wq_iconst (pc := 5) dR_product_5 rfl ?_
  refine wq_istore_n (pc := 6) (lo' := [iR 63, iI y0, iI 0, none]) dR_product_6 rfl rfl rfl ?_
  exact H

set_option maxRecDepth 20000 in
theorem B_R_product_7 {d : Nat} {x1 x2 : Int} {M : Mm} {Q : Mm → Option Mv → Prop} (H : ((60 ≤ x2 → Q M (some (vI x1))) ∧ (¬ 60 ≤ x2 → Wq 2 0 0 mR_skip 0 [iR 63, iI 42] [] M (fun M' v => Wq (d + 3) 0 0 mR_product 19 [iR 63, iI x1, iI x2, none] (v.toList ++ []) M' Q)))) : Wq (d + 3) 0 0 mR_product 7 [iR 63, iI x1, iI x2, none] [] M Q := by
  refine wq_iload_n (pc := 7) dR_product_7 rfl rfl ?_
  refine wq_bipush (pc := 8) dR_product_8 rfl ?_
  refine wq_icmp_ge (pc := 10) (tgt := 69) dR_product_10 (by decide) (fun c1 => ?_) (fun c1 => ?_)
  · have H := H.1 c1
    refine wq_iload_n (pc := 69) dR_product_69 rfl rfl ?_
    refine wq_ireturn (pc := 70) dR_product_70 trivial ?_
    exact H
  · have H := H.2 c1
    refine wq_aload_n (pc := 13) dR_product_13 rfl rfl ?_
    refine wq_bipush (pc := 14) dR_product_14 rfl ?_
    refine wq_callV (d' := 2) (pc := 16) (as := [vI 42]) (rest := []) (lo' := [iR 63, iI 42]) dR_product_16 mO_R_skip lV_R_46 sh_63 (by decide) cl_5 rfl rfl rfl rfl rfl rfl ?_
    exact H

set_option maxRecDepth 20000 in
theorem B_R_product_19 {d : Nat} {x1 x2 y0 : Int} {M : Mm} {Q : Mm → Option Mv → Prop} (H : ((y0 = 0 → Wq 2 0 0 mR_skip 0 [iR 63, iI 47] [] M (fun M' v => Wq (d + 3) 0 0 mR_product 38 [iR 63, iI x1, iI x2, none] (v.toList ++ []) M' Q)) ∧ (¬ y0 = 0 → Wq (d + 2) 0 0 mR_single 0 [iR 63, none, none] [] M (fun M' v => Wq (d + 3) 0 0 mR_product 27 [iR 63, iI x1, iI x2, none] (v.toList ++ [vI x1]) M' Q)))) : Wq (d + 3) 0 0 mR_product 19 [iR 63, iI x1, iI x2, none] [vI y0] M Q := by
  refine wq_if_eq (pc := 19) (tgt := 32) dR_product_19 (by decide) (fun c1 => ?_) (fun c1 => ?_)
  · have H := H.1 c1
    refine wq_aload_n (pc := 32) dR_product_32 rfl rfl ?_
    refine wq_bipush (pc := 33) dR_product_33 rfl ?_
    refine wq_callV (d' := 2) (pc := 35) (as := [vI 47]) (rest := []) (lo' := [iR 63, iI 47]) dR_product_35 mO_R_skip lV_R_46 sh_63 (by decide) cl_5 rfl rfl rfl rfl rfl rfl ?_
    exact H
  · have H := H.2 c1
    refine wq_iload_n (pc := 22) dR_product_22 rfl rfl ?_
    refine wq_aload_n (pc := 23) dR_product_23 rfl rfl ?_
    refine wq_callV (d' := (d + 2)) (pc := 24) (as := []) (rest := [vI x1]) (lo' := [iR 63, none, none]) dR_product_24 mO_R_single lV_R_63 sh_63 (by decide) cl_5 rfl rfl rfl rfl rfl (blt_d d) ?_
    exact H

set_option maxRecDepth 20000 in
theorem B_R_product_27 {d : Nat} {x1 x2 y0 y1 : Int} {M : Mm} {Q : Mm → Option Mv → Prop} (H : Wq (d + 3) 0 0 mR_product 7 [iR 63, iI (wr (y1 * y0)), iI (wr (x2 + 1)), none] [] M Q) : Wq (d + 3) 0 0 mR_product 27 [iR 63, iI x1, iI x2, none] [vI y0, vI y1] M Q := by
  refine wq_imul (pc := 27) dR_product_27 ?_
  refine wq_istore_n (pc := 28) (lo' := [iR 63, iI (wr (y1 * y0)), iI x2, none]) dR_product_28 rfl rfl rfl ?_
  refine wq_goto (pc := 29) (tgt := 63) dR_product_29 (by decide) ?_
  refine wq_iinc (pc := 63) (lo' := [iR 63, iI (wr (y1 * y0)), iI (wr (x2 + 1)), none]) dR_product_63 rfl rfl rfl ?_
  refine wq_goto (pc := 66) (tgt := 7) dR_product_66 (by decide) ?_
  exact H

set_option maxRecDepth 20000 in
theorem B_R_product_38 {d : Nat} {x1 x2 y0 : Int} {M : Mm} {Q : Mm → Option Mv → Prop} (H : ((y0 = 0 → Q M (some (vI x1))) ∧ (¬ y0 = 0 → Wq (d + 2) 0 0 mR_single 0 [iR 63, none, none] [] M (fun M' v => Wq (d + 3) 0 0 mR_product 45 [iR 63, iI x1, iI x2, none] (v.toList ++ []) M' Q)))) : Wq (d + 3) 0 0 mR_product 38 [iR 63, iI x1, iI x2, none] [vI y0] M Q := by
  refine wq_if_eq (pc := 38) (tgt := 61) dR_product_38 (by decide) (fun c1 => ?_) (fun c1 => ?_)
  · have H := H.1 c1
    refine wq_iload_n (pc := 61) dR_product_61 rfl rfl ?_
    refine wq_ireturn (pc := 62) dR_product_62 trivial ?_
    exact H
  · have H := H.2 c1
    refine wq_aload_n (pc := 41) dR_product_41 rfl rfl ?_
    refine wq_callV (d' := (d + 2)) (pc := 42) (as := []) (rest := []) (lo' := [iR 63, none, none]) dR_product_42 mO_R_single lV_R_63 sh_63 (by decide) cl_5 rfl rfl rfl rfl rfl (blt_d d) ?_
    exact H

set_option maxRecDepth 20000 in
theorem B_R_product_45 {d : Nat} {x1 x2 y0 : Int} {M : Mm} {Q : Mm → Option Mv → Prop} (H : ((¬ y0 = 0 → (¬ y0 = 0 ∧ Wq (d + 3) 0 0 mR_product 7 [iR 63, iI (wr (Int.tdiv x1 y0)), iI (wr (x2 + 1)), none] [] M Q)) ∧ (y0 = 0 → Wq (d + 3) 0 0 mR_product 7 [iR 63, iI 0, iI (wr (x2 + 1)), none] [] M Q))) : Wq (d + 3) 0 0 mR_product 45 [iR 63, iI x1, iI x2, none] [vI y0] M Q := by
  refine wq_istore_n (pc := 45) (lo' := [iR 63, iI x1, iI x2, iI y0]) dR_product_45 rfl rfl rfl ?_
  refine wq_iload_n (pc := 46) dR_product_46 rfl rfl ?_
  refine wq_if_ne (pc := 47) (tgt := 54) dR_product_47 (by decide) (fun c1 => ?_) (fun c1 => ?_)
  · have H := H.1 c1
    obtain ⟨s2, H⟩ := H
    refine wq_iload_n (pc := 54) dR_product_54 rfl rfl ?_
    refine wq_iload_n (pc := 55) dR_product_55 rfl rfl ?_
    refine wq_idiv (pc := 56) dR_product_56 s2 ?_
    refine wq_istore_n (pc := 57) (lo' := [iR 63, iI (wr (Int.tdiv x1 y0)), iI x2, iI y0]) dR_product_57 rfl rfl rfl ?_
    refine wq_goto (pc := 58) (tgt := 63) dR_product_58 (by decide) ?_
    refine wq_iinc (pc := 63) (lo' := [iR 63, iI (wr (Int.tdiv x1 y0)), iI (wr (x2 + 1)), iI y0]) dR_product_63 rfl rfl rfl ?_
    refine wq_goto (pc := 66) (tgt := 7) dR_product_66 (by decide) ?_
    refine wq_drop [3] (lo' := [iR 63, iI (wr (Int.tdiv x1 y0)), iI (wr (x2 + 1)), none]) rfl ?_
    exact H
  · have H := H.2 c1
    refine wq_iconst (pc := 50) dR_product_50 rfl ?_
    refine wq_goto (pc := 51) (tgt := 57) dR_product_51 (by decide) ?_
    refine wq_istore_n (pc := 57) (lo' := [iR 63, iI 0, iI x2, iI y0]) dR_product_57 rfl rfl rfl ?_
    refine wq_goto (pc := 58) (tgt := 63) dR_product_58 (by decide) ?_
    refine wq_iinc (pc := 63) (lo' := [iR 63, iI 0, iI (wr (x2 + 1)), iI y0]) dR_product_63 rfl rfl rfl ?_
    refine wq_goto (pc := 66) (tgt := 7) dR_product_66 (by decide) ?_
    refine wq_drop [3] (lo' := [iR 63, iI 0, iI (wr (x2 + 1)), none]) rfl ?_
    exact H
set_option maxRecDepth 20000 in
theorem B_R_single_0 {d : Nat} {M : Mm} {Q : Mm → Option Mv → Prop} (H : Wq 1 0 0 mR_next 0 [iR 63] [] M (fun M' v => Wq (d + 3) 0 0 mR_single 4 [iR 63, none, none] (v.toList ++ []) M' Q)) : Wq (d + 3) 0 0 mR_single 0 [iR 63, none, none] [] M Q := by
  refine wq_aload_n (pc := 0) dR_single_0 rfl rfl ?_
  refine wq_callV (d' := 1) (pc := 1) (as := []) (rest := []) (lo' := [iR 63]) dR_single_1 mO_R_next lV_R_40 sh_63 (by decide) cl_5 rfl rfl rfl rfl rfl rfl ?_
  exact H

set_option maxRecDepth 20000 in
theorem B_R_single_4 {d : Nat} {y0 : Int} {M : Mm} {Q : Mm → Option Mv → Prop} (H : ((y0 < 48 → ((y0 = 33 → Wq (d + 2) 0 0 mR_opened 0 [iR 63, iI y0, none] [] M (fun M' v => Wq (d + 3) 0 0 mR_single 39 [iR 63, iI y0, none] (v.toList ++ []) M' Q)) ∧ (¬ y0 = 33 → ((¬ y0 = 40 → Wq 1 0 0 mR_nameOf 0 [iI y0] [] M (fun M' v => Wq (d + 3) 0 0 mR_single 44 [iR 63, iI y0, none] (v.toList ++ []) M' Q)) ∧ (y0 = 40 → Wq (d + 2) 0 0 mR_opened 0 [iR 63, iI y0, none] [] M (fun M' v => Wq (d + 3) 0 0 mR_single 39 [iR 63, iI y0, none] (v.toList ++ []) M' Q)))))) ∧ (¬ y0 < 48 → ((57 < y0 → ((y0 = 33 → Wq (d + 2) 0 0 mR_opened 0 [iR 63, iI y0, none] [] M (fun M' v => Wq (d + 3) 0 0 mR_single 39 [iR 63, iI y0, none] (v.toList ++ []) M' Q)) ∧ (¬ y0 = 33 → ((¬ y0 = 40 → Wq 1 0 0 mR_nameOf 0 [iI y0] [] M (fun M' v => Wq (d + 3) 0 0 mR_single 44 [iR 63, iI y0, none] (v.toList ++ []) M' Q)) ∧ (y0 = 40 → Wq (d + 2) 0 0 mR_opened 0 [iR 63, iI y0, none] [] M (fun M' v => Wq (d + 3) 0 0 mR_single 39 [iR 63, iI y0, none] (v.toList ++ []) M' Q)))))) ∧ (¬ 57 < y0 → Wq 2 0 0 mR_number 0 [iR 63, none, none] [] M (fun M' v => Wq (d + 3) 0 0 mR_single 21 [iR 63, iI y0, none] (v.toList ++ []) M' Q)))))) : Wq (d + 3) 0 0 mR_single 4 [iR 63, none, none] [vI y0] M Q := by
  refine wq_istore_n (pc := 4) (lo' := [iR 63, iI y0, none]) dR_single_4 rfl rfl rfl ?_
  refine wq_iload_n (pc := 5) dR_single_5 rfl rfl ?_
  refine wq_bipush (pc := 6) dR_single_6 rfl ?_
  refine wq_icmp_lt (pc := 8) (tgt := 22) dR_single_8 (by decide) (fun c1 => ?_) (fun c1 => ?_)
  · have H := H.1 c1
    refine wq_iload_n (pc := 22) dR_single_22 rfl rfl ?_
    refine wq_bipush (pc := 23) dR_single_23 rfl ?_
    refine wq_icmp_eq (pc := 25) (tgt := 34) dR_single_25 (by decide) (fun c2 => ?_) (fun c2 => ?_)
    · have H := H.1 c2
      refine wq_aload_n (pc := 34) dR_single_34 rfl rfl ?_
      refine wq_iload_n (pc := 35) dR_single_35 rfl rfl ?_
      refine wq_callV (d' := (d + 2)) (pc := 36) (as := [vI y0]) (rest := []) (lo' := [iR 63, iI y0, none]) dR_single_36 mO_R_opened lV_R_69 sh_63 (by decide) cl_5 rfl rfl rfl rfl rfl (blt_d d) ?_
      exact H
    · have H := H.2 c2
      refine wq_iload_n (pc := 28) dR_single_28 rfl rfl ?_
      refine wq_bipush (pc := 29) dR_single_29 rfl ?_
      refine wq_icmp_ne (pc := 31) (tgt := 40) dR_single_31 (by decide) (fun c3 => ?_) (fun c3 => ?_)
      · have H := H.1 c3
        refine wq_iload_n (pc := 40) dR_single_40 rfl rfl ?_
        refine wq_callS (d' := 1) (pc := 41) (as := [vI y0]) (rest := []) (lo' := [iI y0]) dR_single_41 mO_R_nameOf lS_R_73 rfl rfl rfl rfl rfl rfl ?_
        exact H
      · have H := H.2 c3
        refine wq_aload_n (pc := 34) dR_single_34 rfl rfl ?_
        refine wq_iload_n (pc := 35) dR_single_35 rfl rfl ?_
        refine wq_callV (d' := (d + 2)) (pc := 36) (as := [vI y0]) (rest := []) (lo' := [iR 63, iI y0, none]) dR_single_36 mO_R_opened lV_R_69 sh_63 (by decide) cl_5 rfl rfl rfl rfl rfl (blt_d d) ?_
        exact H
  · have H := H.2 c1
    refine wq_iload_n (pc := 11) dR_single_11 rfl rfl ?_
    refine wq_bipush (pc := 12) dR_single_12 rfl ?_
    refine wq_icmp_gt (pc := 14) (tgt := 22) dR_single_14 (by decide) (fun c4 => ?_) (fun c4 => ?_)
    · have H := H.1 c4
      refine wq_iload_n (pc := 22) dR_single_22 rfl rfl ?_
      refine wq_bipush (pc := 23) dR_single_23 rfl ?_
      refine wq_icmp_eq (pc := 25) (tgt := 34) dR_single_25 (by decide) (fun c5 => ?_) (fun c5 => ?_)
      · have H := H.1 c5
        refine wq_aload_n (pc := 34) dR_single_34 rfl rfl ?_
        refine wq_iload_n (pc := 35) dR_single_35 rfl rfl ?_
        refine wq_callV (d' := (d + 2)) (pc := 36) (as := [vI y0]) (rest := []) (lo' := [iR 63, iI y0, none]) dR_single_36 mO_R_opened lV_R_69 sh_63 (by decide) cl_5 rfl rfl rfl rfl rfl (blt_d d) ?_
        exact H
      · have H := H.2 c5
        refine wq_iload_n (pc := 28) dR_single_28 rfl rfl ?_
        refine wq_bipush (pc := 29) dR_single_29 rfl ?_
        refine wq_icmp_ne (pc := 31) (tgt := 40) dR_single_31 (by decide) (fun c6 => ?_) (fun c6 => ?_)
        · have H := H.1 c6
          refine wq_iload_n (pc := 40) dR_single_40 rfl rfl ?_
          refine wq_callS (d' := 1) (pc := 41) (as := [vI y0]) (rest := []) (lo' := [iI y0]) dR_single_41 mO_R_nameOf lS_R_73 rfl rfl rfl rfl rfl rfl ?_
          exact H
        · have H := H.2 c6
          refine wq_aload_n (pc := 34) dR_single_34 rfl rfl ?_
          refine wq_iload_n (pc := 35) dR_single_35 rfl rfl ?_
          refine wq_callV (d' := (d + 2)) (pc := 36) (as := [vI y0]) (rest := []) (lo' := [iR 63, iI y0, none]) dR_single_36 mO_R_opened lV_R_69 sh_63 (by decide) cl_5 rfl rfl rfl rfl rfl (blt_d d) ?_
          exact H
    · have H := H.2 c4
      refine wq_aload_n (pc := 17) dR_single_17 rfl rfl ?_
      refine wq_callV (d' := 2) (pc := 18) (as := []) (rest := []) (lo' := [iR 63, none, none]) dR_single_18 mO_R_number lV_R_66 sh_63 (by decide) cl_5 rfl rfl rfl rfl rfl rfl ?_
      exact H

set_option maxRecDepth 20000 in
theorem B_R_single_21 {d : Nat} {x1 y0 : Int} {M : Mm} {Q : Mm → Option Mv → Prop} (H : Q M (some (vI y0))) : Wq (d + 3) 0 0 mR_single 21 [iR 63, iI x1, none] [vI y0] M Q := by
  refine wq_ireturn (pc := 21) dR_single_21 trivial ?_
  exact H

set_option maxRecDepth 20000 in
theorem B_R_single_39 {d : Nat} {x1 y0 : Int} {M : Mm} {Q : Mm → Option Mv → Prop} (H : Q M (some (vI y0))) : Wq (d + 3) 0 0 mR_single 39 [iR 63, iI x1, none] [vI y0] M Q := by
  refine wq_ireturn (pc := 39) dR_single_39 trivial ?_
  exact H

set_option maxRecDepth 20000 in
theorem B_R_single_44 {d : Nat} {x1 y0 : Int} {M : Mm} {Q : Mm → Option Mv → Prop} (hS : RefOK M) (H : ((0 ≤ y0 → (((-2147483648 ≤ gI M 63 4 + 1 ∧ gI M 63 4 + 1 < 2147483648) ∧ (0 ≤ y0 ∧ y0 < 6)) ∧ Q (sI M 63 4 (gI M 63 4 + 1)) (some (vI (gI M 64 y0))))) ∧ (¬ 0 ≤ y0 → Q (sI M 63 6 1) (some (vI 0))))) : Wq (d + 3) 0 0 mR_single 44 [iR 63, iI x1, none] [vI y0] M Q := by
  refine wq_istore_n (pc := 44) (lo' := [iR 63, iI x1, iI y0]) dR_single_44 rfl rfl rfl ?_
  refine wq_iload_n (pc := 45) dR_single_45 rfl rfl ?_
  refine wq_if_ge (pc := 46) (tgt := 56) dR_single_46 (by decide) (fun c1 => ?_) (fun c1 => ?_)
  · have H := H.1 c1
    obtain ⟨⟨s2, s3⟩, H⟩ := H
    refine wq_aload_n (pc := 56) dR_single_56 rfl rfl ?_
    refine wq_dup (pc := 57) dR_single_57 rfl ?_
    refine wq_getI (pc := 58) (z := 4) dR_single_58 fO_R_26 sh_63 rfl rfl ?_
    refine wq_iconst (pc := 61) dR_single_61 rfl ?_
    refine wq_iadd (pc := 62) dR_single_62 ?_
    refine wq_re (x := (wr (gI M 63 4 + 1))) (y := (gI M 63 4 + 1)) (Eq.trans (wr_eq (by omega) (by omega)) (by omega)) ?_
    refine wq_putI (pc := 63) (z := 4) dR_single_63 fW_R_26 sh_63 rfl rfl ?_
    refine wq_aload_n (pc := 66) dR_single_66 rfl rfl ?_
    refine wq_getR (pc := 67) (z := 0) (b := 64) dR_single_67 fO_R_9 sh_63 rfl rfl (rf_63_0 hS) ?_
    refine wq_iload_n (pc := 70) dR_single_70 rfl rfl ?_
    refine wq_iald (pc := 71) dR_single_71 sh_64 s3.1 s3.2 ?_
    refine wq_re (x := (gI (sI M 63 4 (gI M 63 4 + 1)) 64 y0)) (y := (gI M 64 y0)) rfl ?_
    refine wq_ireturn (pc := 72) dR_single_72 trivial ?_
    exact H
  · have H := H.2 c1
    refine wq_aload_n (pc := 49) dR_single_49 rfl rfl ?_
    refine wq_iconst (pc := 50) dR_single_50 rfl ?_
    refine wq_putZ (pc := 51) (z := 6) dR_single_51 fW_R_32 sh_63 rfl rfl (Or.inr rfl) ?_
    refine wq_iconst (pc := 54) dR_single_54 rfl ?_
    refine wq_ireturn (pc := 55) dR_single_55 trivial ?_
    exact H
set_option maxRecDepth 20000 in
theorem B_R_opened_0 {d : Nat} {x1 : Int} {M : Mm} {Q : Mm → Option Mv → Prop} (H : ((gI M 63 5 < 5 → (((-2147483648 ≤ gI M 63 5 + 1 ∧ gI M 63 5 + 1 < 2147483648) ∧ (-2147483648 ≤ gI M 63 4 + 1 ∧ gI M 63 4 + 1 < 2147483648)) ∧ ((¬ x1 = 33 → Wq (d + 2) 0 0 mR_either 0 [iR 63, none, none, none] [] (sI (sI M 63 5 (gI M 63 5 + 1)) 63 4 (gI M 63 4 + 1)) (fun M' v => Wq (d + 3) 0 0 mR_opened 63 [iR 63, iI x1, none] (v.toList ++ []) M' Q)) ∧ (x1 = 33 → Wq (d + 2) 0 0 mR_single 0 [iR 63, none, none] [] (sI (sI M 63 5 (gI M 63 5 + 1)) 63 4 (gI M 63 4 + 1)) (fun M' v => Wq (d + 3) 0 0 mR_opened 45 [iR 63, iI x1, none] (v.toList ++ []) M' Q))))) ∧ (¬ gI M 63 5 < 5 → Q (sI M 63 6 1) (some (vI 0))))) : Wq (d + 3) 0 0 mR_opened 0 [iR 63, iI x1, none] [] M Q := by
  refine wq_aload_n (pc := 0) dR_opened_0 rfl rfl ?_
  refine wq_getI (pc := 1) (z := 5) dR_opened_1 fO_R_29 sh_63 rfl rfl ?_
  refine wq_iconst (pc := 4) dR_opened_4 rfl ?_
  refine wq_icmp_lt (pc := 5) (tgt := 15) dR_opened_5 (by decide) (fun c1 => ?_) (fun c1 => ?_)
  · have H := H.1 c1
    obtain ⟨⟨s2, s3⟩, H⟩ := H
    refine wq_aload_n (pc := 15) dR_opened_15 rfl rfl ?_
    refine wq_dup (pc := 16) dR_opened_16 rfl ?_
    refine wq_getI (pc := 17) (z := 5) dR_opened_17 fO_R_29 sh_63 rfl rfl ?_
    refine wq_iconst (pc := 20) dR_opened_20 rfl ?_
    refine wq_iadd (pc := 21) dR_opened_21 ?_
    refine wq_re (x := (wr (gI M 63 5 + 1))) (y := (gI M 63 5 + 1)) (Eq.trans (wr_eq (by omega) (by omega)) (by omega)) ?_
    refine wq_putI (pc := 22) (z := 5) dR_opened_22 fW_R_29 sh_63 rfl rfl ?_
    refine wq_aload_n (pc := 25) dR_opened_25 rfl rfl ?_
    refine wq_dup (pc := 26) dR_opened_26 rfl ?_
    refine wq_getI (pc := 27) (z := 4) dR_opened_27 fO_R_26 sh_63 rfl rfl ?_
    refine wq_re (x := (gI (sI M 63 5 (gI M 63 5 + 1)) 63 4)) (y := (gI M 63 4)) rfl ?_
    refine wq_iconst (pc := 30) dR_opened_30 rfl ?_
    refine wq_iadd (pc := 31) dR_opened_31 ?_
    refine wq_re (x := (wr (gI M 63 4 + 1))) (y := (gI M 63 4 + 1)) (Eq.trans (wr_eq (by omega) (by omega)) (by omega)) ?_
    refine wq_putI (pc := 32) (z := 4) dR_opened_32 fW_R_26 sh_63 rfl rfl ?_
    refine wq_iload_n (pc := 35) dR_opened_35 rfl rfl ?_
    refine wq_bipush (pc := 36) dR_opened_36 rfl ?_
    refine wq_icmp_ne (pc := 38) (tgt := 59) dR_opened_38 (by decide) (fun c4 => ?_) (fun c4 => ?_)
    · have H := H.1 c4
      refine wq_aload_n (pc := 59) dR_opened_59 rfl rfl ?_
      refine wq_callV (d' := (d + 2)) (pc := 60) (as := []) (rest := []) (lo' := [iR 63, none, none, none]) dR_opened_60 mO_R_either lV_R_36 sh_63 (by decide) cl_5 rfl rfl rfl rfl rfl (blt_d d) ?_
      exact H
    · have H := H.2 c4
      refine wq_aload_n (pc := 41) dR_opened_41 rfl rfl ?_
      refine wq_callV (d' := (d + 2)) (pc := 42) (as := []) (rest := []) (lo' := [iR 63, none, none]) dR_opened_42 mO_R_single lV_R_63 sh_63 (by decide) cl_5 rfl rfl rfl rfl rfl (blt_d d) ?_
      exact H
  · have H := H.2 c1
    refine wq_aload_n (pc := 8) dR_opened_8 rfl rfl ?_
    refine wq_iconst (pc := 9) dR_opened_9 rfl ?_
    refine wq_putZ (pc := 10) (z := 6) dR_opened_10 fW_R_32 sh_63 rfl rfl (Or.inr rfl) ?_
    refine wq_iconst (pc := 13) dR_opened_13 rfl ?_
    refine wq_ireturn (pc := 14) dR_opened_14 trivial ?_
    exact H

set_option maxRecDepth 20000 in
theorem B_R_opened_45 {d : Nat} {x1 y0 : Int} {M : Mm} {Q : Mm → Option Mv → Prop} (H : ((¬ y0 = 0 → Wq 1 0 0 mR_truth 0 [iI 0] [] M (fun M' v => Wq (d + 3) 0 0 mR_opened 56 [iR 63, iI x1, none] (v.toList ++ []) M' Q)) ∧ (y0 = 0 → Wq 1 0 0 mR_truth 0 [iI 1] [] M (fun M' v => Wq (d + 3) 0 0 mR_opened 56 [iR 63, iI x1, none] (v.toList ++ []) M' Q)))) : Wq (d + 3) 0 0 mR_opened 45 [iR 63, iI x1, none] [vI y0] M Q := by
  refine wq_if_ne (pc := 45) (tgt := 52) dR_opened_45 (by decide) (fun c1 => ?_) (fun c1 => ?_)
  · have H := H.1 c1
    refine wq_iconst (pc := 52) dR_opened_52 rfl ?_
    refine wq_callS (d' := 1) (pc := 53) (as := [vI 0]) (rest := []) (lo' := [iI 0]) dR_opened_53 mO_R_truth lS_R_50 rfl rfl rfl rfl rfl rfl ?_
    exact H
  · have H := H.2 c1
    refine wq_iconst (pc := 48) dR_opened_48 rfl ?_
    refine wq_goto (pc := 49) (tgt := 53) dR_opened_49 (by decide) ?_
    refine wq_callS (d' := 1) (pc := 53) (as := [vI 1]) (rest := []) (lo' := [iI 1]) dR_opened_53 mO_R_truth lS_R_50 rfl rfl rfl rfl rfl rfl ?_
    exact H

set_option maxRecDepth 20000 in
theorem B_R_opened_56 {d : Nat} {x1 y0 : Int} {M : Mm} {Q : Mm → Option Mv → Prop} (H : ((¬ x1 = 40 → ((-2147483648 ≤ gI M 63 5 - 1 ∧ gI M 63 5 - 1 < 2147483648) ∧ Q (sI M 63 5 (gI M 63 5 - 1)) (some (vI y0)))) ∧ (x1 = 40 → Wq 2 0 0 mR_skip 0 [iR 63, iI 41] [] M (fun M' v => Wq (d + 3) 0 0 mR_opened 76 [iR 63, iI x1, iI y0] (v.toList ++ []) M' Q)))) : Wq (d + 3) 0 0 mR_opened 56 [iR 63, iI x1, none] [vI y0] M Q := by
  refine wq_goto (pc := 56) (tgt := 63) dR_opened_56 (by decide) ?_
  refine wq_istore_n (pc := 63) (lo' := [iR 63, iI x1, iI y0]) dR_opened_63 rfl rfl rfl ?_
  refine wq_iload_n (pc := 64) dR_opened_64 rfl rfl ?_
  refine wq_bipush (pc := 65) dR_opened_65 rfl ?_
  refine wq_icmp_ne (pc := 67) (tgt := 84) dR_opened_67 (by decide) (fun c1 => ?_) (fun c1 => ?_)
  · have H := H.1 c1
    obtain ⟨s2, H⟩ := H
    refine wq_aload_n (pc := 84) dR_opened_84 rfl rfl ?_
    refine wq_dup (pc := 85) dR_opened_85 rfl ?_
    refine wq_getI (pc := 86) (z := 5) dR_opened_86 fO_R_29 sh_63 rfl rfl ?_
    refine wq_iconst (pc := 89) dR_opened_89 rfl ?_
    refine wq_isub (pc := 90) dR_opened_90 ?_
    refine wq_re (x := (wr (gI M 63 5 - 1))) (y := (gI M 63 5 - 1)) (Eq.trans (wr_eq (by omega) (by omega)) (by omega)) ?_
    refine wq_putI (pc := 91) (z := 5) dR_opened_91 fW_R_29 sh_63 rfl rfl ?_
    refine wq_iload_n (pc := 94) dR_opened_94 rfl rfl ?_
    refine wq_ireturn (pc := 95) dR_opened_95 trivial ?_
    exact H
  · have H := H.2 c1
    refine wq_aload_n (pc := 70) dR_opened_70 rfl rfl ?_
    refine wq_bipush (pc := 71) dR_opened_71 rfl ?_
    refine wq_callV (d' := 2) (pc := 73) (as := [vI 41]) (rest := []) (lo' := [iR 63, iI 41]) dR_opened_73 mO_R_skip lV_R_46 sh_63 (by decide) cl_5 rfl rfl rfl rfl rfl rfl ?_
    exact H

set_option maxRecDepth 20000 in
theorem B_R_opened_63 {d : Nat} {x1 y0 : Int} {M : Mm} {Q : Mm → Option Mv → Prop} (H : ((¬ x1 = 40 → ((-2147483648 ≤ gI M 63 5 - 1 ∧ gI M 63 5 - 1 < 2147483648) ∧ Q (sI M 63 5 (gI M 63 5 - 1)) (some (vI y0)))) ∧ (x1 = 40 → Wq 2 0 0 mR_skip 0 [iR 63, iI 41] [] M (fun M' v => Wq (d + 3) 0 0 mR_opened 76 [iR 63, iI x1, iI y0] (v.toList ++ []) M' Q)))) : Wq (d + 3) 0 0 mR_opened 63 [iR 63, iI x1, none] [vI y0] M Q := by
  refine wq_istore_n (pc := 63) (lo' := [iR 63, iI x1, iI y0]) dR_opened_63 rfl rfl rfl ?_
  refine wq_iload_n (pc := 64) dR_opened_64 rfl rfl ?_
  refine wq_bipush (pc := 65) dR_opened_65 rfl ?_
  refine wq_icmp_ne (pc := 67) (tgt := 84) dR_opened_67 (by decide) (fun c1 => ?_) (fun c1 => ?_)
  · have H := H.1 c1
    obtain ⟨s2, H⟩ := H
    refine wq_aload_n (pc := 84) dR_opened_84 rfl rfl ?_
    refine wq_dup (pc := 85) dR_opened_85 rfl ?_
    refine wq_getI (pc := 86) (z := 5) dR_opened_86 fO_R_29 sh_63 rfl rfl ?_
    refine wq_iconst (pc := 89) dR_opened_89 rfl ?_
    refine wq_isub (pc := 90) dR_opened_90 ?_
    refine wq_re (x := (wr (gI M 63 5 - 1))) (y := (gI M 63 5 - 1)) (Eq.trans (wr_eq (by omega) (by omega)) (by omega)) ?_
    refine wq_putI (pc := 91) (z := 5) dR_opened_91 fW_R_29 sh_63 rfl rfl ?_
    refine wq_iload_n (pc := 94) dR_opened_94 rfl rfl ?_
    refine wq_ireturn (pc := 95) dR_opened_95 trivial ?_
    exact H
  · have H := H.2 c1
    refine wq_aload_n (pc := 70) dR_opened_70 rfl rfl ?_
    refine wq_bipush (pc := 71) dR_opened_71 rfl ?_
    refine wq_callV (d' := 2) (pc := 73) (as := [vI 41]) (rest := []) (lo' := [iR 63, iI 41]) dR_opened_73 mO_R_skip lV_R_46 sh_63 (by decide) cl_5 rfl rfl rfl rfl rfl rfl ?_
    exact H

set_option maxRecDepth 20000 in
theorem B_R_opened_76 {d : Nat} {x1 x2 y0 : Int} {M : Mm} {Q : Mm → Option Mv → Prop} (H : ((¬ y0 = 0 → ((-2147483648 ≤ gI M 63 5 - 1 ∧ gI M 63 5 - 1 < 2147483648) ∧ Q (sI M 63 5 (gI M 63 5 - 1)) (some (vI x2)))) ∧ (y0 = 0 → ((-2147483648 ≤ gI M 63 5 - 1 ∧ gI M 63 5 - 1 < 2147483648) ∧ Q (sI (sI M 63 6 1) 63 5 (gI M 63 5 - 1)) (some (vI x2)))))) : Wq (d + 3) 0 0 mR_opened 76 [iR 63, iI x1, iI x2] [vI y0] M Q := by
  refine wq_if_ne (pc := 76) (tgt := 84) dR_opened_76 (by decide) (fun c1 => ?_) (fun c1 => ?_)
  · have H := H.1 c1
    obtain ⟨s2, H⟩ := H
    refine wq_aload_n (pc := 84) dR_opened_84 rfl rfl ?_
    refine wq_dup (pc := 85) dR_opened_85 rfl ?_
    refine wq_getI (pc := 86) (z := 5) dR_opened_86 fO_R_29 sh_63 rfl rfl ?_
    refine wq_iconst (pc := 89) dR_opened_89 rfl ?_
    refine wq_isub (pc := 90) dR_opened_90 ?_
    refine wq_re (x := (wr (gI M 63 5 - 1))) (y := (gI M 63 5 - 1)) (Eq.trans (wr_eq (by omega) (by omega)) (by omega)) ?_
    refine wq_putI (pc := 91) (z := 5) dR_opened_91 fW_R_29 sh_63 rfl rfl ?_
    refine wq_iload_n (pc := 94) dR_opened_94 rfl rfl ?_
    refine wq_ireturn (pc := 95) dR_opened_95 trivial ?_
    exact H
  · have H := H.2 c1
    obtain ⟨s3, H⟩ := H
    refine wq_aload_n (pc := 79) dR_opened_79 rfl rfl ?_
    refine wq_iconst (pc := 80) dR_opened_80 rfl ?_
    refine wq_putZ (pc := 81) (z := 6) dR_opened_81 fW_R_32 sh_63 rfl rfl (Or.inr rfl) ?_
    refine wq_aload_n (pc := 84) dR_opened_84 rfl rfl ?_
    refine wq_dup (pc := 85) dR_opened_85 rfl ?_
    refine wq_getI (pc := 86) (z := 5) dR_opened_86 fO_R_29 sh_63 rfl rfl ?_
    refine wq_re (x := (gI (sI M 63 6 1) 63 5)) (y := (gI M 63 5)) rfl ?_
    refine wq_iconst (pc := 89) dR_opened_89 rfl ?_
    refine wq_isub (pc := 90) dR_opened_90 ?_
    refine wq_re (x := (wr (gI M 63 5 - 1))) (y := (gI M 63 5 - 1)) (Eq.trans (wr_eq (by omega) (by omega)) (by omega)) ?_
    refine wq_putI (pc := 91) (z := 5) dR_opened_91 fW_R_29 sh_63 rfl rfl ?_
    refine wq_iload_n (pc := 94) dR_opened_94 rfl rfl ?_
    refine wq_ireturn (pc := 95) dR_opened_95 trivial ?_
    exact H
