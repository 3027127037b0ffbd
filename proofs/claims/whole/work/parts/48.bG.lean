set_option maxRecDepth 20000 in
theorem B_M_endOf_0 {x1 x2 x3 : Int} {M : Mm} {Q : Mm → Option Mv → Prop} (hS : RefOK M) (H : ((0 ≤ 10 + 3 * x1 ∧ 10 + 3 * x1 < 1993) ∧ ((gI M 81 (10 + 3 * x1) = 4 → ((-2147483648 ≤ x2 + max 0 x3 ∧ x2 + max 0 x3 < 2147483648) ∧ Q M (some (vI (x2 + max 0 x3))))) ∧ (¬ gI M 81 (10 + 3 * x1) = 4 → ((¬ gI M 81 (10 + 3 * x1) = 5 → Wq 3 0 0 mM_endOf 33 [iR 80, iI x1, iI x2, iI x3, iI (gI M 81 (10 + 3 * x1)), iI x3, iI x2] [] M Q) ∧ (gI M 81 (10 + 3 * x1) = 5 → ((-2147483648 ≤ x2 + max 0 x3 ∧ x2 + max 0 x3 < 2147483648) ∧ Q M (some (vI (x2 + max 0 x3)))))))))) : Wq 3 0 0 mM_endOf 0 [iR 80, iI x1, iI x2, iI x3, none, none, none] [] M Q := by
  obtain ⟨s1, H⟩ := H
  refine wq_aload_n (pc := 0) dM_endOf_0 rfl rfl ?_
  refine wq_iload_n (pc := 1) dM_endOf_1 rfl rfl ?_
  refine wq_callV (d' := 1) (pc := 2) (as := [vI x1]) (rest := []) (lo' := [iR 80, iI x1]) dM_endOf_2 mO_M_kindOf lV_M_88 sh_80 (by decide) cl_11 rfl rfl rfl rfl rfl rfl ?_
  refine sp_M_kindOf hS s1 ?_
  show Wq 3 0 0 mM_endOf 5 [iR 80, iI x1, iI x2, iI x3, none, none, none] [vI (gI M 81 (10 + 3 * x1))] M _
  refine wq_istore (pc := 5) (lo' := [iR 80, iI x1, iI x2, iI x3, iI (gI M 81 (10 + 3 * x1)), none, none]) dM_endOf_5 rfl rfl ?_
  refine wq_iload (pc := 7) dM_endOf_7 rfl ?_
  refine wq_iconst (pc := 9) dM_endOf_9 rfl ?_
  refine wq_icmp_eq (pc := 10) (tgt := 19) dM_endOf_10 (by decide) (fun c2 => ?_) (fun c2 => ?_)
  · have H := H.1 c2
    obtain ⟨s3, H⟩ := H
    refine wq_iload_n (pc := 19) dM_endOf_19 rfl rfl ?_
    refine wq_iconst (pc := 20) dM_endOf_20 rfl ?_
    refine wq_iload_n (pc := 21) dM_endOf_21 rfl rfl ?_
    refine wq_max (pc := 22) dM_endOf_22 xO_M_139 rfl ?_
    refine wq_iadd (pc := 25) dM_endOf_25 ?_
    refine wq_re (x := (wr (x2 + max 0 x3))) (y := (x2 + max 0 x3)) (Eq.trans (wr_eq (by omega) (by omega)) (by omega)) ?_
    refine wq_ireturn (pc := 26) dM_endOf_26 trivial ?_
    exact H
  · have H := H.2 c2
    refine wq_iload (pc := 13) dM_endOf_13 rfl ?_
    refine wq_iconst (pc := 15) dM_endOf_15 rfl ?_
    refine wq_icmp_ne (pc := 16) (tgt := 27) dM_endOf_16 (by decide) (fun c4 => ?_) (fun c4 => ?_)
    · have H := H.1 c4
      refine wq_iload_n (pc := 27) dM_endOf_27 rfl rfl ?_
      refine wq_istore (pc := 28) (lo' := [iR 80, iI x1, iI x2, iI x3, iI (gI M 81 (10 + 3 * x1)), iI x3, none]) dM_endOf_28 rfl rfl ?_
      refine wq_iload_n (pc := 30) dM_endOf_30 rfl rfl ?_
      refine wq_istore (pc := 31) (lo' := [iR 80, iI x1, iI x2, iI x3, iI (gI M 81 (10 + 3 * x1)), iI x3, iI x2]) dM_endOf_31 rfl rfl ?_
      exact H
    · have H := H.2 c4
      obtain ⟨s5, H⟩ := H
      refine wq_iload_n (pc := 19) dM_endOf_19 rfl rfl ?_
      refine wq_iconst (pc := 20) dM_endOf_20 rfl ?_
      refine wq_iload_n (pc := 21) dM_endOf_21 rfl rfl ?_
      refine wq_max (pc := 22) dM_endOf_22 xO_M_139 rfl ?_
      refine wq_iadd (pc := 25) dM_endOf_25 ?_
      refine wq_re (x := (wr (x2 + max 0 x3))) (y := (x2 + max 0 x3)) (Eq.trans (wr_eq (by omega) (by omega)) (by omega)) ?_
      refine wq_ireturn (pc := 26) dM_endOf_26 trivial ?_
      exact H

set_option maxRecDepth 20000 in
theorem B_M_endOf_33 {x1 x2 x3 x4 x5 x6 : Int} {M : Mm} {Q : Mm → Option Mv → Prop} (H : ((x5 ≤ 0 → Q M (some (vI x6))) ∧ (¬ x5 ≤ 0 → Wq 2 0 0 mM_goesOn 0 [iR 80, iI x1, iI x6, none, none, none] [] M (fun M' v => Wq 3 0 0 mM_endOf 47 [iR 80, iI x1, iI x2, iI x3, iI x4, iI x5, iI x6] (v.toList ++ [vI x5]) M' Q)))) : Wq 3 0 0 mM_endOf 33 [iR 80, iI x1, iI x2, iI x3, iI x4, iI x5, iI x6] [] M Q := by
  refine wq_iload (pc := 33) dM_endOf_33 rfl ?_
  refine wq_if_le (pc := 35) (tgt := 64) dM_endOf_35 (by decide) (fun c1 => ?_) (fun c1 => ?_)
  · have H := H.1 c1
    refine wq_iload (pc := 64) dM_endOf_64 rfl ?_
    refine wq_ireturn (pc := 66) dM_endOf_66 trivial ?_
    exact H
  · have H := H.2 c1
    refine wq_iload (pc := 38) dM_endOf_38 rfl ?_
    refine wq_aload_n (pc := 40) dM_endOf_40 rfl rfl ?_
    refine wq_iload_n (pc := 41) dM_endOf_41 rfl rfl ?_
    refine wq_iload (pc := 42) dM_endOf_42 rfl ?_
    refine wq_callV (d' := 2) (pc := 44) (as := [vI x1, vI x6]) (rest := [vI x5]) (lo' := [iR 80, iI x1, iI x6, none, none, none]) dM_endOf_44 mO_M_goesOn lV_M_144 sh_80 (by decide) cl_11 rfl rfl rfl rfl rfl rfl ?_
    exact H

set_option maxRecDepth 20000 in
theorem B_M_endOf_47 {x1 x2 x3 x4 x5 x6 y0 y1 : Int} {M : Mm} {Q : Mm → Option Mv → Prop} (H : ((y0 = 0 → (((-2147483648 ≤ y1 ∧ y1 < 2147483648) ∧ (-2147483648 ≤ x6 + 1 ∧ x6 + 1 < 2147483648)) ∧ Wq 3 0 0 mM_endOf 33 [iR 80, iI x1, iI x2, iI x3, iI x4, iI y1, iI (x6 + 1)] [] M Q)) ∧ (¬ y0 = 0 → (((-2147483648 ≤ y1 - 1 ∧ y1 - 1 < 2147483648) ∧ (-2147483648 ≤ x6 + 1 ∧ x6 + 1 < 2147483648)) ∧ Wq 3 0 0 mM_endOf 33 [iR 80, iI x1, iI x2, iI x3, iI x4, iI (y1 - 1), iI (x6 + 1)] [] M Q)))) : Wq 3 0 0 mM_endOf 47 [iR 80, iI x1, iI x2, iI x3, iI x4, iI x5, iI x6] [vI y0, vI y1] M Q := by
  refine wq_if_eq (pc := 47) (tgt := 54) dM_endOf_47 (by decide) (fun c1 => ?_) (fun c1 => ?_)
  · have H := H.1 c1
    obtain ⟨⟨s2, s3⟩, H⟩ := H
    refine wq_iconst (pc := 54) dM_endOf_54 rfl ?_
    refine wq_isub (pc := 55) dM_endOf_55 ?_
    refine wq_re (x := (wr (y1 - 0))) (y := y1) (Eq.trans (wr_eq (by omega) (by omega)) (by omega)) ?_
    refine wq_istore (pc := 56) (lo' := [iR 80, iI x1, iI x2, iI x3, iI x4, iI y1, iI x6]) dM_endOf_56 rfl rfl ?_
    refine wq_iinc (pc := 58) (lo' := [iR 80, iI x1, iI x2, iI x3, iI x4, iI y1, iI (x6 + 1)]) dM_endOf_58 rfl rfl (by rw [show wr (x6 + 1) = x6 + 1 from (Eq.trans (wr_eq (by omega) (by omega)) (by omega))]; rfl) ?_
    refine wq_goto (pc := 61) (tgt := 33) dM_endOf_61 (by decide) ?_
    exact H
  · have H := H.2 c1
    obtain ⟨⟨s4, s5⟩, H⟩ := H
    refine wq_iconst (pc := 50) dM_endOf_50 rfl ?_
    refine wq_goto (pc := 51) (tgt := 55) dM_endOf_51 (by decide) ?_
    refine wq_isub (pc := 55) dM_endOf_55 ?_
    refine wq_re (x := (wr (y1 - 1))) (y := (y1 - 1)) (Eq.trans (wr_eq (by omega) (by omega)) (by omega)) ?_
    refine wq_istore (pc := 56) (lo' := [iR 80, iI x1, iI x2, iI x3, iI x4, iI (y1 - 1), iI x6]) dM_endOf_56 rfl rfl ?_
    refine wq_iinc (pc := 58) (lo' := [iR 80, iI x1, iI x2, iI x3, iI x4, iI (y1 - 1), iI (x6 + 1)]) dM_endOf_58 rfl rfl (by rw [show wr (x6 + 1) = x6 + 1 from (Eq.trans (wr_eq (by omega) (by omega)) (by omega))]; rfl) ?_
    refine wq_goto (pc := 61) (tgt := 33) dM_endOf_61 (by decide) ?_
    exact H
set_option maxRecDepth 20000 in
theorem B_M_goesOn_0 {x1 x2 : Int} {M : Mm} {Q : Mm → Option Mv → Prop} (hS : RefOK M) (H : (((-2147483648 ≤ Int.tmod x2 7 ∧ Int.tmod x2 7 < 2147483648) ∧ (0 ≤ gI M 81 1 ∧ gI M 81 1 < 2147483648 ∧ 0 ≤ Int.tmod x2 7 ∧ Int.tmod x2 7 < 32)) ∧ ((hb (gI M 81 1) (Int.tmod x2 7) = true → ((900 ≤ x2 → ((0 ≤ 10 + 3 * x1 ∧ 10 + 3 * x1 < 1993) ∧ ((gI M 81 (10 + 3 * x1) = 4 → Q M (some (vI 1))) ∧ (¬ gI M 81 (10 + 3 * x1) = 4 → ((gI M 81 (10 + 3 * x1) = 5 → Q M (some (vI 1))) ∧ (¬ gI M 81 (10 + 3 * x1) = 5 → ((¬ gI M 81 (10 + 3 * x1) = 1 → Q M (some (vI 1))) ∧ (gI M 81 (10 + 3 * x1) = 1 → Q M (some (vI 1)))))))))) ∧ (¬ 900 ≤ x2 → ((0 ≤ 1033 + x2 ∧ 1033 + x2 < 1993) ∧ ((¬ gI M 81 (1033 + x2) = 1 → ((0 ≤ 10 + 3 * x1 ∧ 10 + 3 * x1 < 1993) ∧ ((gI M 81 (10 + 3 * x1) = 4 → Q M (some (vI 1))) ∧ (¬ gI M 81 (10 + 3 * x1) = 4 → ((gI M 81 (10 + 3 * x1) = 5 → Q M (some (vI 1))) ∧ (¬ gI M 81 (10 + 3 * x1) = 5 → ((¬ gI M 81 (10 + 3 * x1) = 1 → Q M (some (vI 1))) ∧ (gI M 81 (10 + 3 * x1) = 1 → Q M (some (vI 1)))))))))) ∧ (gI M 81 (1033 + x2) = 1 → ((0 ≤ 10 + 3 * x1 ∧ 10 + 3 * x1 < 1993) ∧ ((gI M 81 (10 + 3 * x1) = 4 → Q M (some (vI 1))) ∧ (¬ gI M 81 (10 + 3 * x1) = 4 → ((gI M 81 (10 + 3 * x1) = 5 → Q M (some (vI 1))) ∧ (¬ gI M 81 (10 + 3 * x1) = 5 → ((¬ gI M 81 (10 + 3 * x1) = 1 → Q M (some (vI 1))) ∧ (gI M 81 (10 + 3 * x1) = 1 → Q M (some (vI 0))))))))))))))) ∧ (¬ (hb (gI M 81 1) (Int.tmod x2 7) = true) → ((900 ≤ x2 → ((0 ≤ 10 + 3 * x1 ∧ 10 + 3 * x1 < 1993) ∧ ((gI M 81 (10 + 3 * x1) = 4 → Q M (some (vI 1))) ∧ (¬ gI M 81 (10 + 3 * x1) = 4 → ((gI M 81 (10 + 3 * x1) = 5 → Q M (some (vI 1))) ∧ (¬ gI M 81 (10 + 3 * x1) = 5 → Q M (some (vI 0)))))))) ∧ (¬ 900 ≤ x2 → ((0 ≤ 1033 + x2 ∧ 1033 + x2 < 1993) ∧ ((¬ gI M 81 (1033 + x2) = 1 → ((0 ≤ 10 + 3 * x1 ∧ 10 + 3 * x1 < 1993) ∧ ((gI M 81 (10 + 3 * x1) = 4 → Q M (some (vI 1))) ∧ (¬ gI M 81 (10 + 3 * x1) = 4 → ((gI M 81 (10 + 3 * x1) = 5 → Q M (some (vI 1))) ∧ (¬ gI M 81 (10 + 3 * x1) = 5 → Q M (some (vI 0)))))))) ∧ (gI M 81 (1033 + x2) = 1 → ((0 ≤ 10 + 3 * x1 ∧ 10 + 3 * x1 < 1993) ∧ ((gI M 81 (10 + 3 * x1) = 4 → Q M (some (vI 1))) ∧ (¬ gI M 81 (10 + 3 * x1) = 4 → ((gI M 81 (10 + 3 * x1) = 5 → Q M (some (vI 1))) ∧ (¬ gI M 81 (10 + 3 * x1) = 5 → Q M (some (vI 0)))))))))))))))) : Wq 2 0 0 mM_goesOn 0 [iR 80, iI x1, iI x2, none, none, none] [] M Q := by
  obtain ⟨⟨s1, s2⟩, H⟩ := H
  refine wq_aload_n (pc := 0) dM_goesOn_0 rfl rfl ?_
  refine wq_getR (pc := 1) (z := 0) (b := 81) dM_goesOn_1 fO_M_9 sh_80 rfl rfl (rf_80_0 hS) ?_
  refine wq_iconst (pc := 4) dM_goesOn_4 rfl ?_
  refine wq_iald (pc := 5) dM_goesOn_5 sh_81 (by decide) (by decide) ?_
  refine wq_iload_n (pc := 6) dM_goesOn_6 rfl rfl ?_
  refine wq_bipush (pc := 7) dM_goesOn_7 rfl ?_
  refine wq_irem (pc := 9) dM_goesOn_9 (by decide) ?_
  refine wq_re (x := (wr (Int.tmod x2 7))) (y := (Int.tmod x2 7)) (Eq.trans (wr_eq (by omega) (by omega)) (by omega)) ?_
  refine wq_callS (d' := 1) (pc := 10) (as := [vI (gI M 81 1), vI (Int.tmod x2 7)]) (rest := []) (lo' := [iI (gI M 81 1), iI (Int.tmod x2 7)]) dM_goesOn_10 mO_M_has lS_M_102 rfl rfl rfl rfl rfl rfl ?_
  refine sp_M_has s2 (fun c3 => ?_) (fun c3 => ?_)
  · have H := H.1 c3
    show Wq 2 0 0 mM_goesOn 13 [iR 80, iI x1, iI x2, none, none, none] [vI 1] M _
    refine wq_istore_n (pc := 13) (lo' := [iR 80, iI x1, iI x2, iI 1, none, none]) dM_goesOn_13 rfl rfl rfl ?_
    refine wq_iload_n (pc := 14) dM_goesOn_14 rfl rfl ?_
    refine wq_sipush (pc := 15) dM_goesOn_15 rfl ?_
    refine wq_icmp_ge (pc := 18) (tgt := 39) dM_goesOn_18 (by decide) (fun c4 => ?_) (fun c4 => ?_)
    · have H := H.1 c4
      obtain ⟨s5, H⟩ := H
      refine wq_iconst (pc := 39) dM_goesOn_39 rfl ?_
      refine wq_istore (pc := 40) (lo' := [iR 80, iI x1, iI x2, iI 1, iI 0, none]) dM_goesOn_40 rfl rfl ?_
      refine wq_aload_n (pc := 42) dM_goesOn_42 rfl rfl ?_
      refine wq_iload_n (pc := 43) dM_goesOn_43 rfl rfl ?_
      refine wq_callV (d' := 1) (pc := 44) (as := [vI x1]) (rest := []) (lo' := [iR 80, iI x1]) dM_goesOn_44 mO_M_kindOf lV_M_88 sh_80 (by decide) cl_11 rfl rfl rfl rfl rfl rfl ?_
      refine sp_M_kindOf hS s5 ?_
      show Wq 2 0 0 mM_goesOn 47 [iR 80, iI x1, iI x2, iI 1, iI 0, none] [vI (gI M 81 (10 + 3 * x1))] M _
      refine wq_istore (pc := 47) (lo' := [iR 80, iI x1, iI x2, iI 1, iI 0, iI (gI M 81 (10 + 3 * x1))]) dM_goesOn_47 rfl rfl ?_
      refine wq_iload (pc := 49) dM_goesOn_49 rfl ?_
      refine wq_iconst (pc := 51) dM_goesOn_51 rfl ?_
      refine wq_icmp_eq (pc := 52) (tgt := 76) dM_goesOn_52 (by decide) (fun c6 => ?_) (fun c6 => ?_)
      · have H := H.1 c6
        refine wq_iconst (pc := 76) dM_goesOn_76 rfl ?_
        refine wq_goto (pc := 77) (tgt := 81) dM_goesOn_77 (by decide) ?_
        refine wq_ireturn (pc := 81) dM_goesOn_81 (Or.inr rfl) ?_
        exact H
      · have H := H.2 c6
        refine wq_iload (pc := 55) dM_goesOn_55 rfl ?_
        refine wq_iconst (pc := 57) dM_goesOn_57 rfl ?_
        refine wq_icmp_eq (pc := 58) (tgt := 76) dM_goesOn_58 (by decide) (fun c7 => ?_) (fun c7 => ?_)
        · have H := H.1 c7
          refine wq_iconst (pc := 76) dM_goesOn_76 rfl ?_
          refine wq_goto (pc := 77) (tgt := 81) dM_goesOn_77 (by decide) ?_
          refine wq_ireturn (pc := 81) dM_goesOn_81 (Or.inr rfl) ?_
          exact H
        · have H := H.2 c7
          refine wq_iload_n (pc := 61) dM_goesOn_61 rfl rfl ?_
          refine wq_if_eq (pc := 62) (tgt := 80) dM_goesOn_62 (by decide) (fun q => absurd q (by decide)) (fun _ => ?_)
          refine wq_iload (pc := 65) dM_goesOn_65 rfl ?_
          refine wq_iconst (pc := 67) dM_goesOn_67 rfl ?_
          refine wq_icmp_ne (pc := 68) (tgt := 76) dM_goesOn_68 (by decide) (fun c8 => ?_) (fun c8 => ?_)
          · have H := H.1 c8
            refine wq_iconst (pc := 76) dM_goesOn_76 rfl ?_
            refine wq_goto (pc := 77) (tgt := 81) dM_goesOn_77 (by decide) ?_
            refine wq_ireturn (pc := 81) dM_goesOn_81 (Or.inr rfl) ?_
            exact H
          · have H := H.2 c8
            refine wq_iload (pc := 71) dM_goesOn_71 rfl ?_
            refine wq_if_ne (pc := 73) (tgt := 80) dM_goesOn_73 (by decide) (fun q => absurd q (by decide)) (fun _ => ?_)
            refine wq_iconst (pc := 76) dM_goesOn_76 rfl ?_
            refine wq_goto (pc := 77) (tgt := 81) dM_goesOn_77 (by decide) ?_
            refine wq_ireturn (pc := 81) dM_goesOn_81 (Or.inr rfl) ?_
            exact H
    · have H := H.2 c4
      obtain ⟨s9, H⟩ := H
      refine wq_aload_n (pc := 21) dM_goesOn_21 rfl rfl ?_
      refine wq_getR (pc := 22) (z := 0) (b := 81) dM_goesOn_22 fO_M_9 sh_80 rfl rfl (rf_80_0 hS) ?_
      refine wq_sipush (pc := 25) dM_goesOn_25 rfl ?_
      refine wq_iload_n (pc := 28) dM_goesOn_28 rfl rfl ?_
      refine wq_iadd (pc := 29) dM_goesOn_29 ?_
      refine wq_re (x := (wr (1033 + x2))) (y := (1033 + x2)) (Eq.trans (wr_eq (by omega) (by omega)) (by omega)) ?_
      refine wq_iald (pc := 30) dM_goesOn_30 sh_81 s9.1 s9.2 ?_
      refine wq_iconst (pc := 31) dM_goesOn_31 rfl ?_
      refine wq_icmp_ne (pc := 32) (tgt := 39) dM_goesOn_32 (by decide) (fun c10 => ?_) (fun c10 => ?_)
      · have H := H.1 c10
        obtain ⟨s11, H⟩ := H
        refine wq_iconst (pc := 39) dM_goesOn_39 rfl ?_
        refine wq_istore (pc := 40) (lo' := [iR 80, iI x1, iI x2, iI 1, iI 0, none]) dM_goesOn_40 rfl rfl ?_
        refine wq_aload_n (pc := 42) dM_goesOn_42 rfl rfl ?_
        refine wq_iload_n (pc := 43) dM_goesOn_43 rfl rfl ?_
        refine wq_callV (d' := 1) (pc := 44) (as := [vI x1]) (rest := []) (lo' := [iR 80, iI x1]) dM_goesOn_44 mO_M_kindOf lV_M_88 sh_80 (by decide) cl_11 rfl rfl rfl rfl rfl rfl ?_
        refine sp_M_kindOf hS s11 ?_
        show Wq 2 0 0 mM_goesOn 47 [iR 80, iI x1, iI x2, iI 1, iI 0, none] [vI (gI M 81 (10 + 3 * x1))] M _
        refine wq_istore (pc := 47) (lo' := [iR 80, iI x1, iI x2, iI 1, iI 0, iI (gI M 81 (10 + 3 * x1))]) dM_goesOn_47 rfl rfl ?_
        refine wq_iload (pc := 49) dM_goesOn_49 rfl ?_
        refine wq_iconst (pc := 51) dM_goesOn_51 rfl ?_
        refine wq_icmp_eq (pc := 52) (tgt := 76) dM_goesOn_52 (by decide) (fun c12 => ?_) (fun c12 => ?_)
        · have H := H.1 c12
          refine wq_iconst (pc := 76) dM_goesOn_76 rfl ?_
          refine wq_goto (pc := 77) (tgt := 81) dM_goesOn_77 (by decide) ?_
          refine wq_ireturn (pc := 81) dM_goesOn_81 (Or.inr rfl) ?_
          exact H
        · have H := H.2 c12
          refine wq_iload (pc := 55) dM_goesOn_55 rfl ?_
          refine wq_iconst (pc := 57) dM_goesOn_57 rfl ?_
          refine wq_icmp_eq (pc := 58) (tgt := 76) dM_goesOn_58 (by decide) (fun c13 => ?_) (fun c13 => ?_)
          · have H := H.1 c13
            refine wq_iconst (pc := 76) dM_goesOn_76 rfl ?_
            refine wq_goto (pc := 77) (tgt := 81) dM_goesOn_77 (by decide) ?_
            refine wq_ireturn (pc := 81) dM_goesOn_81 (Or.inr rfl) ?_
            exact H
          · have H := H.2 c13
            refine wq_iload_n (pc := 61) dM_goesOn_61 rfl rfl ?_
            refine wq_if_eq (pc := 62) (tgt := 80) dM_goesOn_62 (by decide) (fun q => absurd q (by decide)) (fun _ => ?_)
            refine wq_iload (pc := 65) dM_goesOn_65 rfl ?_
            refine wq_iconst (pc := 67) dM_goesOn_67 rfl ?_
            refine wq_icmp_ne (pc := 68) (tgt := 76) dM_goesOn_68 (by decide) (fun c14 => ?_) (fun c14 => ?_)
            · have H := H.1 c14
              refine wq_iconst (pc := 76) dM_goesOn_76 rfl ?_
              refine wq_goto (pc := 77) (tgt := 81) dM_goesOn_77 (by decide) ?_
              refine wq_ireturn (pc := 81) dM_goesOn_81 (Or.inr rfl) ?_
              exact H
            · have H := H.2 c14
              refine wq_iload (pc := 71) dM_goesOn_71 rfl ?_
              refine wq_if_ne (pc := 73) (tgt := 80) dM_goesOn_73 (by decide) (fun q => absurd q (by decide)) (fun _ => ?_)
              refine wq_iconst (pc := 76) dM_goesOn_76 rfl ?_
              refine wq_goto (pc := 77) (tgt := 81) dM_goesOn_77 (by decide) ?_
              refine wq_ireturn (pc := 81) dM_goesOn_81 (Or.inr rfl) ?_
              exact H
      · have H := H.2 c10
        obtain ⟨s15, H⟩ := H
        refine wq_iconst (pc := 35) dM_goesOn_35 rfl ?_
        refine wq_goto (pc := 36) (tgt := 40) dM_goesOn_36 (by decide) ?_
        refine wq_istore (pc := 40) (lo' := [iR 80, iI x1, iI x2, iI 1, iI 1, none]) dM_goesOn_40 rfl rfl ?_
        refine wq_aload_n (pc := 42) dM_goesOn_42 rfl rfl ?_
        refine wq_iload_n (pc := 43) dM_goesOn_43 rfl rfl ?_
        refine wq_callV (d' := 1) (pc := 44) (as := [vI x1]) (rest := []) (lo' := [iR 80, iI x1]) dM_goesOn_44 mO_M_kindOf lV_M_88 sh_80 (by decide) cl_11 rfl rfl rfl rfl rfl rfl ?_
        refine sp_M_kindOf hS s15 ?_
        show Wq 2 0 0 mM_goesOn 47 [iR 80, iI x1, iI x2, iI 1, iI 1, none] [vI (gI M 81 (10 + 3 * x1))] M _
        refine wq_istore (pc := 47) (lo' := [iR 80, iI x1, iI x2, iI 1, iI 1, iI (gI M 81 (10 + 3 * x1))]) dM_goesOn_47 rfl rfl ?_
        refine wq_iload (pc := 49) dM_goesOn_49 rfl ?_
        refine wq_iconst (pc := 51) dM_goesOn_51 rfl ?_
        refine wq_icmp_eq (pc := 52) (tgt := 76) dM_goesOn_52 (by decide) (fun c16 => ?_) (fun c16 => ?_)
        · have H := H.1 c16
          refine wq_iconst (pc := 76) dM_goesOn_76 rfl ?_
          refine wq_goto (pc := 77) (tgt := 81) dM_goesOn_77 (by decide) ?_
          refine wq_ireturn (pc := 81) dM_goesOn_81 (Or.inr rfl) ?_
          exact H
        · have H := H.2 c16
          refine wq_iload (pc := 55) dM_goesOn_55 rfl ?_
          refine wq_iconst (pc := 57) dM_goesOn_57 rfl ?_
          refine wq_icmp_eq (pc := 58) (tgt := 76) dM_goesOn_58 (by decide) (fun c17 => ?_) (fun c17 => ?_)
          · have H := H.1 c17
            refine wq_iconst (pc := 76) dM_goesOn_76 rfl ?_
            refine wq_goto (pc := 77) (tgt := 81) dM_goesOn_77 (by decide) ?_
            refine wq_ireturn (pc := 81) dM_goesOn_81 (Or.inr rfl) ?_
            exact H
          · have H := H.2 c17
            refine wq_iload_n (pc := 61) dM_goesOn_61 rfl rfl ?_
            refine wq_if_eq (pc := 62) (tgt := 80) dM_goesOn_62 (by decide) (fun q => absurd q (by decide)) (fun _ => ?_)
            refine wq_iload (pc := 65) dM_goesOn_65 rfl ?_
            refine wq_iconst (pc := 67) dM_goesOn_67 rfl ?_
            refine wq_icmp_ne (pc := 68) (tgt := 76) dM_goesOn_68 (by decide) (fun c18 => ?_) (fun c18 => ?_)
            · have H := H.1 c18
              refine wq_iconst (pc := 76) dM_goesOn_76 rfl ?_
              refine wq_goto (pc := 77) (tgt := 81) dM_goesOn_77 (by decide) ?_
              refine wq_ireturn (pc := 81) dM_goesOn_81 (Or.inr rfl) ?_
              exact H
            · have H := H.2 c18
              refine wq_iload (pc := 71) dM_goesOn_71 rfl ?_
              refine wq_if_ne (pc := 73) (tgt := 80) dM_goesOn_73 (by decide) (fun _ => ?_) (fun q => absurd q (by decide))
              refine wq_iconst (pc := 80) dM_goesOn_80 rfl ?_
              refine wq_ireturn (pc := 81) dM_goesOn_81 (Or.inl rfl) ?_
              exact H
  · have H := H.2 c3
    show Wq 2 0 0 mM_goesOn 13 [iR 80, iI x1, iI x2, none, none, none] [vI 0] M _
    refine wq_istore_n (pc := 13) (lo' := [iR 80, iI x1, iI x2, iI 0, none, none]) dM_goesOn_13 rfl rfl rfl ?_
    refine wq_iload_n (pc := 14) dM_goesOn_14 rfl rfl ?_
    refine wq_sipush (pc := 15) dM_goesOn_15 rfl ?_
    refine wq_icmp_ge (pc := 18) (tgt := 39) dM_goesOn_18 (by decide) (fun c19 => ?_) (fun c19 => ?_)
    · have H := H.1 c19
      obtain ⟨s20, H⟩ := H
      refine wq_iconst (pc := 39) dM_goesOn_39 rfl ?_
      refine wq_istore (pc := 40) (lo' := [iR 80, iI x1, iI x2, iI 0, iI 0, none]) dM_goesOn_40 rfl rfl ?_
      refine wq_aload_n (pc := 42) dM_goesOn_42 rfl rfl ?_
      refine wq_iload_n (pc := 43) dM_goesOn_43 rfl rfl ?_
      refine wq_callV (d' := 1) (pc := 44) (as := [vI x1]) (rest := []) (lo' := [iR 80, iI x1]) dM_goesOn_44 mO_M_kindOf lV_M_88 sh_80 (by decide) cl_11 rfl rfl rfl rfl rfl rfl ?_
      refine sp_M_kindOf hS s20 ?_
      show Wq 2 0 0 mM_goesOn 47 [iR 80, iI x1, iI x2, iI 0, iI 0, none] [vI (gI M 81 (10 + 3 * x1))] M _
      refine wq_istore (pc := 47) (lo' := [iR 80, iI x1, iI x2, iI 0, iI 0, iI (gI M 81 (10 + 3 * x1))]) dM_goesOn_47 rfl rfl ?_
      refine wq_iload (pc := 49) dM_goesOn_49 rfl ?_
      refine wq_iconst (pc := 51) dM_goesOn_51 rfl ?_
      refine wq_icmp_eq (pc := 52) (tgt := 76) dM_goesOn_52 (by decide) (fun c21 => ?_) (fun c21 => ?_)
      · have H := H.1 c21
        refine wq_iconst (pc := 76) dM_goesOn_76 rfl ?_
        refine wq_goto (pc := 77) (tgt := 81) dM_goesOn_77 (by decide) ?_
        refine wq_ireturn (pc := 81) dM_goesOn_81 (Or.inr rfl) ?_
        exact H
      · have H := H.2 c21
        refine wq_iload (pc := 55) dM_goesOn_55 rfl ?_
        refine wq_iconst (pc := 57) dM_goesOn_57 rfl ?_
        refine wq_icmp_eq (pc := 58) (tgt := 76) dM_goesOn_58 (by decide) (fun c22 => ?_) (fun c22 => ?_)
        · have H := H.1 c22
          refine wq_iconst (pc := 76) dM_goesOn_76 rfl ?_
          refine wq_goto (pc := 77) (tgt := 81) dM_goesOn_77 (by decide) ?_
          refine wq_ireturn (pc := 81) dM_goesOn_81 (Or.inr rfl) ?_
          exact H
        · have H := H.2 c22
          refine wq_iload_n (pc := 61) dM_goesOn_61 rfl rfl ?_
          refine wq_if_eq (pc := 62) (tgt := 80) dM_goesOn_62 (by decide) (fun _ => ?_) (fun q => absurd (by decide) q)
          refine wq_iconst (pc := 80) dM_goesOn_80 rfl ?_
          refine wq_ireturn (pc := 81) dM_goesOn_81 (Or.inl rfl) ?_
          exact H
    · have H := H.2 c19
      obtain ⟨s23, H⟩ := H
      refine wq_aload_n (pc := 21) dM_goesOn_21 rfl rfl ?_
      refine wq_getR (pc := 22) (z := 0) (b := 81) dM_goesOn_22 fO_M_9 sh_80 rfl rfl (rf_80_0 hS) ?_
      refine wq_sipush (pc := 25) dM_goesOn_25 rfl ?_
      refine wq_iload_n (pc := 28) dM_goesOn_28 rfl rfl ?_
      refine wq_iadd (pc := 29) dM_goesOn_29 ?_
      refine wq_re (x := (wr (1033 + x2))) (y := (1033 + x2)) (Eq.trans (wr_eq (by omega) (by omega)) (by omega)) ?_
      refine wq_iald (pc := 30) dM_goesOn_30 sh_81 s23.1 s23.2 ?_
      refine wq_iconst (pc := 31) dM_goesOn_31 rfl ?_
      refine wq_icmp_ne (pc := 32) (tgt := 39) dM_goesOn_32 (by decide) (fun c24 => ?_) (fun c24 => ?_)
      · have H := H.1 c24
        obtain ⟨s25, H⟩ := H
        refine wq_iconst (pc := 39) dM_goesOn_39 rfl ?_
        refine wq_istore (pc := 40) (lo' := [iR 80, iI x1, iI x2, iI 0, iI 0, none]) dM_goesOn_40 rfl rfl ?_
        refine wq_aload_n (pc := 42) dM_goesOn_42 rfl rfl ?_
        refine wq_iload_n (pc := 43) dM_goesOn_43 rfl rfl ?_
        refine wq_callV (d' := 1) (pc := 44) (as := [vI x1]) (rest := []) (lo' := [iR 80, iI x1]) dM_goesOn_44 mO_M_kindOf lV_M_88 sh_80 (by decide) cl_11 rfl rfl rfl rfl rfl rfl ?_
        refine sp_M_kindOf hS s25 ?_
        show Wq 2 0 0 mM_goesOn 47 [iR 80, iI x1, iI x2, iI 0, iI 0, none] [vI (gI M 81 (10 + 3 * x1))] M _
        refine wq_istore (pc := 47) (lo' := [iR 80, iI x1, iI x2, iI 0, iI 0, iI (gI M 81 (10 + 3 * x1))]) dM_goesOn_47 rfl rfl ?_
        refine wq_iload (pc := 49) dM_goesOn_49 rfl ?_
        refine wq_iconst (pc := 51) dM_goesOn_51 rfl ?_
        refine wq_icmp_eq (pc := 52) (tgt := 76) dM_goesOn_52 (by decide) (fun c26 => ?_) (fun c26 => ?_)
        · have H := H.1 c26
          refine wq_iconst (pc := 76) dM_goesOn_76 rfl ?_
          refine wq_goto (pc := 77) (tgt := 81) dM_goesOn_77 (by decide) ?_
          refine wq_ireturn (pc := 81) dM_goesOn_81 (Or.inr rfl) ?_
          exact H
        · have H := H.2 c26
          refine wq_iload (pc := 55) dM_goesOn_55 rfl ?_
          refine wq_iconst (pc := 57) dM_goesOn_57 rfl ?_
          refine wq_icmp_eq (pc := 58) (tgt := 76) dM_goesOn_58 (by decide) (fun c27 => ?_) (fun c27 => ?_)
          · have H := H.1 c27
            refine wq_iconst (pc := 76) dM_goesOn_76 rfl ?_
            refine wq_goto (pc := 77) (tgt := 81) dM_goesOn_77 (by decide) ?_
            refine wq_ireturn (pc := 81) dM_goesOn_81 (Or.inr rfl) ?_
            exact H
          · have H := H.2 c27
            refine wq_iload_n (pc := 61) dM_goesOn_61 rfl rfl ?_
            refine wq_if_eq (pc := 62) (tgt := 80) dM_goesOn_62 (by decide) (fun _ => ?_) (fun q => absurd (by decide) q)
            refine wq_iconst (pc := 80) dM_goesOn_80 rfl ?_
            refine wq_ireturn (pc := 81) dM_goesOn_81 (Or.inl rfl) ?_
            exact H
      · have H := H.2 c24
        obtain ⟨s28, H⟩ := H
        refine wq_iconst (pc := 35) dM_goesOn_35 rfl ?_
        refine wq_goto (pc := 36) (tgt := 40) dM_goesOn_36 (by decide) ?_
        refine wq_istore (pc := 40) (lo' := [iR 80, iI x1, iI x2, iI 0, iI 1, none]) dM_goesOn_40 rfl rfl ?_
        refine wq_aload_n (pc := 42) dM_goesOn_42 rfl rfl ?_
        refine wq_iload_n (pc := 43) dM_goesOn_43 rfl rfl ?_
        refine wq_callV (d' := 1) (pc := 44) (as := [vI x1]) (rest := []) (lo' := [iR 80, iI x1]) dM_goesOn_44 mO_M_kindOf lV_M_88 sh_80 (by decide) cl_11 rfl rfl rfl rfl rfl rfl ?_
        refine sp_M_kindOf hS s28 ?_
        show Wq 2 0 0 mM_goesOn 47 [iR 80, iI x1, iI x2, iI 0, iI 1, none] [vI (gI M 81 (10 + 3 * x1))] M _
        refine wq_istore (pc := 47) (lo' := [iR 80, iI x1, iI x2, iI 0, iI 1, iI (gI M 81 (10 + 3 * x1))]) dM_goesOn_47 rfl rfl ?_
        refine wq_iload (pc := 49) dM_goesOn_49 rfl ?_
        refine wq_iconst (pc := 51) dM_goesOn_51 rfl ?_
        refine wq_icmp_eq (pc := 52) (tgt := 76) dM_goesOn_52 (by decide) (fun c29 => ?_) (fun c29 => ?_)
        · have H := H.1 c29
          refine wq_iconst (pc := 76) dM_goesOn_76 rfl ?_
          refine wq_goto (pc := 77) (tgt := 81) dM_goesOn_77 (by decide) ?_
          refine wq_ireturn (pc := 81) dM_goesOn_81 (Or.inr rfl) ?_
          exact H
        · have H := H.2 c29
          refine wq_iload (pc := 55) dM_goesOn_55 rfl ?_
          refine wq_iconst (pc := 57) dM_goesOn_57 rfl ?_
          refine wq_icmp_eq (pc := 58) (tgt := 76) dM_goesOn_58 (by decide) (fun c30 => ?_) (fun c30 => ?_)
          · have H := H.1 c30
            refine wq_iconst (pc := 76) dM_goesOn_76 rfl ?_
            refine wq_goto (pc := 77) (tgt := 81) dM_goesOn_77 (by decide) ?_
            refine wq_ireturn (pc := 81) dM_goesOn_81 (Or.inr rfl) ?_
            exact H
          · have H := H.2 c30
            refine wq_iload_n (pc := 61) dM_goesOn_61 rfl rfl ?_
            refine wq_if_eq (pc := 62) (tgt := 80) dM_goesOn_62 (by decide) (fun _ => ?_) (fun q => absurd (by decide) q)
            refine wq_iconst (pc := 80) dM_goesOn_80 rfl ?_
            refine wq_ireturn (pc := 81) dM_goesOn_81 (Or.inl rfl) ?_
            exact H
set_option maxRecDepth 20000 in
theorem B_Y_endOf_0 {x1 x2 x3 : Int} {M : Mm} {Q : Mm → Option Mv → Prop} (hS : RefOK M) (H : ((0 < x3 → ((x1 = 4 → ((-2147483648 ≤ x2 + x3 ∧ x2 + x3 < 2147483648) ∧ Q M (some (vI (x2 + x3))))) ∧ (¬ x1 = 4 → ((¬ x1 = 5 → ((¬ x1 = 1 → Wq 1 0 0 mY_byWeek 0 [iR 2, iI x2, iI x3, none, none, none, none] [] M (fun M' v => Wq 2 0 0 mY_endOf 38 [iR 2, iI x1, iI x2, iI x3, none] (v.toList ++ []) M' Q)) ∧ (x1 = 1 → ((x2 < 900 → (((0 ≤ x2 ∧ x2 < 901) ∧ (-2147483648 ≤ gI M 4 x2 + x3 ∧ gI M 4 x2 + x3 < 2147483648)) ∧ ((gI M 4 x2 + x3 ≤ gI M 4 900 → Wq 1 0 0 mY_firstWith 0 [iR 2, iI (gI M 4 x2 + x3), iI x2, none, none, none, none] [] M (fun M' v => Wq 2 0 0 mY_endOf 88 [iR 2, iI x1, iI x2, iI x3, iI (gI M 4 x2 + x3)] (v.toList ++ []) M' Q)) ∧ (¬ gI M 4 x2 + x3 ≤ gI M 4 900 → ((-2147483648 ≤ gI M 4 x2 + x3 - gI M 4 900 ∧ gI M 4 x2 + x3 - gI M 4 900 < 2147483648) ∧ Wq 1 0 0 mY_byWeek 0 [iR 2, iI 900, iI (gI M 4 x2 + x3 - gI M 4 900), none, none, none, none] [] M (fun M' v => Wq 2 0 0 mY_endOf 80 [iR 2, iI x1, iI x2, iI x3, iI (gI M 4 x2 + x3)] (v.toList ++ []) M' Q)))))) ∧ (¬ x2 < 900 → Wq 1 0 0 mY_byWeek 0 [iR 2, iI x2, iI x3, none, none, none, none] [] M (fun M' v => Wq 2 0 0 mY_endOf 38 [iR 2, iI x1, iI x2, iI x3, none] (v.toList ++ []) M' Q)))))) ∧ (x1 = 5 → ((-2147483648 ≤ x2 + x3 ∧ x2 + x3 < 2147483648) ∧ Q M (some (vI (x2 + x3))))))))) ∧ (¬ 0 < x3 → Q M (some (vI x2))))) : Wq 2 0 0 mY_endOf 0 [iR 2, iI x1, iI x2, iI x3, none] [] M Q := by
  refine wq_iload_n (pc := 0) dY_endOf_0 rfl rfl ?_
  refine wq_if_gt (pc := 1) (tgt := 6) dY_endOf_1 (by decide) (fun c1 => ?_) (fun c1 => ?_)
  · have H := H.1 c1
    refine wq_iload_n (pc := 6) dY_endOf_6 rfl rfl ?_
    refine wq_iconst (pc := 7) dY_endOf_7 rfl ?_
    refine wq_icmp_eq (pc := 8) (tgt := 16) dY_endOf_8 (by decide) (fun c2 => ?_) (fun c2 => ?_)
    · have H := H.1 c2
      obtain ⟨s3, H⟩ := H
      refine wq_iload_n (pc := 16) dY_endOf_16 rfl rfl ?_
      refine wq_iload_n (pc := 17) dY_endOf_17 rfl rfl ?_
      refine wq_iadd (pc := 18) dY_endOf_18 ?_
      refine wq_re (x := (wr (x2 + x3))) (y := (x2 + x3)) (Eq.trans (wr_eq (by omega) (by omega)) (by omega)) ?_
      refine wq_ireturn (pc := 19) dY_endOf_19 trivial ?_
      exact H
    · have H := H.2 c2
      refine wq_iload_n (pc := 11) dY_endOf_11 rfl rfl ?_
      refine wq_iconst (pc := 12) dY_endOf_12 rfl ?_
      refine wq_icmp_ne (pc := 13) (tgt := 20) dY_endOf_13 (by decide) (fun c4 => ?_) (fun c4 => ?_)
      · have H := H.1 c4
        refine wq_iload_n (pc := 20) dY_endOf_20 rfl rfl ?_
        refine wq_iconst (pc := 21) dY_endOf_21 rfl ?_
        refine wq_icmp_ne (pc := 22) (tgt := 32) dY_endOf_22 (by decide) (fun c5 => ?_) (fun c5 => ?_)
        · have H := H.1 c5
          refine wq_aload_n (pc := 32) dY_endOf_32 rfl rfl ?_
          refine wq_iload_n (pc := 33) dY_endOf_33 rfl rfl ?_
          refine wq_iload_n (pc := 34) dY_endOf_34 rfl rfl ?_
          refine wq_callV (d' := 1) (pc := 35) (as := [vI x2, vI x3]) (rest := []) (lo' := [iR 2, iI x2, iI x3, none, none, none, none]) dY_endOf_35 mO_Y_byWeek lV_Y_55 sh_2 (by decide) cl_1 rfl rfl rfl rfl rfl rfl ?_
          exact H
        · have H := H.2 c5
          refine wq_iload_n (pc := 25) dY_endOf_25 rfl rfl ?_
          refine wq_sipush (pc := 26) dY_endOf_26 rfl ?_
          refine wq_icmp_lt (pc := 29) (tgt := 39) dY_endOf_29 (by decide) (fun c6 => ?_) (fun c6 => ?_)
          · have H := H.1 c6
            obtain ⟨⟨s7, s8⟩, H⟩ := H
            refine wq_aload_n (pc := 39) dY_endOf_39 rfl rfl ?_
            refine wq_getR (pc := 40) (z := 1) (b := 4) dY_endOf_40 fO_Y_15 sh_2 rfl rfl (rf_2_1 hS) ?_
            refine wq_iload_n (pc := 43) dY_endOf_43 rfl rfl ?_
            refine wq_iald (pc := 44) dY_endOf_44 sh_4 s7.1 s7.2 ?_
            refine wq_iload_n (pc := 45) dY_endOf_45 rfl rfl ?_
            refine wq_iadd (pc := 46) dY_endOf_46 ?_
            refine wq_re (x := (wr (gI M 4 x2 + x3))) (y := (gI M 4 x2 + x3)) (Eq.trans (wr_eq (by omega) (by omega)) (by omega)) ?_
            refine wq_istore (pc := 47) (lo' := [iR 2, iI x1, iI x2, iI x3, iI (gI M 4 x2 + x3)]) dY_endOf_47 rfl rfl ?_
            refine wq_iload (pc := 49) dY_endOf_49 rfl ?_
            refine wq_aload_n (pc := 51) dY_endOf_51 rfl rfl ?_
            refine wq_getR (pc := 52) (z := 1) (b := 4) dY_endOf_52 fO_Y_15 sh_2 rfl rfl (rf_2_1 hS) ?_
            refine wq_sipush (pc := 55) dY_endOf_55 rfl ?_
            refine wq_iald (pc := 58) dY_endOf_58 sh_4 (by decide) (by decide) ?_
            refine wq_icmp_le (pc := 59) (tgt := 81) dY_endOf_59 (by decide) (fun c9 => ?_) (fun c9 => ?_)
            · have H := H.1 c9
              refine wq_aload_n (pc := 81) dY_endOf_81 rfl rfl ?_
              refine wq_iload (pc := 82) dY_endOf_82 rfl ?_
              refine wq_iload_n (pc := 84) dY_endOf_84 rfl rfl ?_
              refine wq_callV (d' := 1) (pc := 85) (as := [vI (gI M 4 x2 + x3), vI x2]) (rest := []) (lo' := [iR 2, iI (gI M 4 x2 + x3), iI x2, none, none, none, none]) dY_endOf_85 mO_Y_firstWith lV_Y_58 sh_2 (by decide) cl_1 rfl rfl rfl rfl rfl rfl ?_
              exact H
            · have H := H.2 c9
              obtain ⟨s10, H⟩ := H
              refine wq_aload_n (pc := 62) dY_endOf_62 rfl rfl ?_
              refine wq_sipush (pc := 63) dY_endOf_63 rfl ?_
              refine wq_iload (pc := 66) dY_endOf_66 rfl ?_
              refine wq_aload_n (pc := 68) dY_endOf_68 rfl rfl ?_
              refine wq_getR (pc := 69) (z := 1) (b := 4) dY_endOf_69 fO_Y_15 sh_2 rfl rfl (rf_2_1 hS) ?_
              refine wq_sipush (pc := 72) dY_endOf_72 rfl ?_
              refine wq_iald (pc := 75) dY_endOf_75 sh_4 (by decide) (by decide) ?_
              refine wq_isub (pc := 76) dY_endOf_76 ?_
              refine wq_re (x := (wr (gI M 4 x2 + x3 - gI M 4 900))) (y := (gI M 4 x2 + x3 - gI M 4 900)) (Eq.trans (wr_eq (by omega) (by omega)) (by omega)) ?_
              refine wq_callV (d' := 1) (pc := 77) (as := [vI 900, vI (gI M 4 x2 + x3 - gI M 4 900)]) (rest := []) (lo' := [iR 2, iI 900, iI (gI M 4 x2 + x3 - gI M 4 900), none, none, none, none]) dY_endOf_77 mO_Y_byWeek lV_Y_55 sh_2 (by decide) cl_1 rfl rfl rfl rfl rfl rfl ?_
              exact H
          · have H := H.2 c6
            refine wq_aload_n (pc := 32) dY_endOf_32 rfl rfl ?_
            refine wq_iload_n (pc := 33) dY_endOf_33 rfl rfl ?_
            refine wq_iload_n (pc := 34) dY_endOf_34 rfl rfl ?_
            refine wq_callV (d' := 1) (pc := 35) (as := [vI x2, vI x3]) (rest := []) (lo' := [iR 2, iI x2, iI x3, none, none, none, none]) dY_endOf_35 mO_Y_byWeek lV_Y_55 sh_2 (by decide) cl_1 rfl rfl rfl rfl rfl rfl ?_
            exact H
      · have H := H.2 c4
        obtain ⟨s11, H⟩ := H
        refine wq_iload_n (pc := 16) dY_endOf_16 rfl rfl ?_
        refine wq_iload_n (pc := 17) dY_endOf_17 rfl rfl ?_
        refine wq_iadd (pc := 18) dY_endOf_18 ?_
        refine wq_re (x := (wr (x2 + x3))) (y := (x2 + x3)) (Eq.trans (wr_eq (by omega) (by omega)) (by omega)) ?_
        refine wq_ireturn (pc := 19) dY_endOf_19 trivial ?_
        exact H
  · have H := H.2 c1
    refine wq_iload_n (pc := 4) dY_endOf_4 rfl rfl ?_
    refine wq_ireturn (pc := 5) dY_endOf_5 trivial ?_
    exact H

set_option maxRecDepth 20000 in
theorem B_Y_endOf_38 {x1 x2 x3 y0 : Int} {M : Mm} {Q : Mm → Option Mv → Prop} (H : Q M (some (vI y0))) : Wq 2 0 0 mY_endOf 38 [iR 2, iI x1, iI x2, iI x3, none] [vI y0] M Q := by
  refine wq_ireturn (pc := 38) dY_endOf_38 trivial ?_
  exact H

set_option maxRecDepth 20000 in
theorem B_Y_endOf_80 {x1 x2 x3 x4 y0 : Int} {M : Mm} {Q : Mm → Option Mv → Prop} (H : Q M (some (vI y0))) : Wq 2 0 0 mY_endOf 80 [iR 2, iI x1, iI x2, iI x3, iI x4] [vI y0] M Q := by
  refine wq_ireturn (pc := 80) dY_endOf_80 trivial ?_
  exact H

set_option maxRecDepth 20000 in
theorem B_Y_endOf_88 {x1 x2 x3 x4 y0 : Int} {M : Mm} {Q : Mm → Option Mv → Prop} (H : Q M (some (vI y0))) : Wq 2 0 0 mY_endOf 88 [iR 2, iI x1, iI x2, iI x3, iI x4] [vI y0] M Q := by
  refine wq_ireturn (pc := 88) dY_endOf_88 trivial ?_
  exact H
set_option maxRecDepth 20000 in
theorem B_Y_byWeek_0 {x1 x2 : Int} {M : Mm} {Q : Mm → Option Mv → Prop} (H : (((-2147483648 ≤ x2 - 1 ∧ x2 - 1 < 2147483648) ∧ ¬ gI M 2 4 = 0 ∧ (-2147483648 ≤ Int.tdiv (x2 - 1) (gI M 2 4) ∧ Int.tdiv (x2 - 1) (gI M 2 4) < 2147483648) ∧ (-2147483648 ≤ x2 - Int.tdiv (x2 - 1) (gI M 2 4) * gI M 2 4 ∧ x2 - Int.tdiv (x2 - 1) (gI M 2 4) * gI M 2 4 < 2147483648) ∧ (-2147483648 ≤ x1 + 7 * Int.tdiv (x2 - 1) (gI M 2 4) ∧ x1 + 7 * Int.tdiv (x2 - 1) (gI M 2 4) < 2147483648)) ∧ Wq 1 0 0 mY_byWeek 30 [iR 2, iI x1, iI x2, iI (Int.tdiv (x2 - 1) (gI M 2 4)), iI (x2 - Int.tdiv (x2 - 1) (gI M 2 4) * gI M 2 4), iI (x1 + 7 * Int.tdiv (x2 - 1) (gI M 2 4)), iI 0] [] M Q)) : Wq 1 0 0 mY_byWeek 0 [iR 2, iI x1, iI x2, none, none, none, none] [] M Q := by
  obtain ⟨⟨s1, s2, s3, s4, s5⟩, H⟩ := H
  refine wq_iload_n (pc := 0) dY_byWeek_0 rfl rfl ?_
  refine wq_iconst (pc := 1) dY_byWeek_1 rfl ?_
  refine wq_isub (pc := 2) dY_byWeek_2 ?_
  refine wq_aload_n (pc := 3) dY_byWeek_3 rfl rfl ?_
  refine wq_getI (pc := 4) (z := 4) dY_byWeek_4 fO_Y_32 sh_2 rfl rfl ?_
  refine wq_re2 (x := (wr (x2 - 1))) (y := (x2 - 1)) (Eq.trans (wr_eq (by omega) (by omega)) (by omega)) ?_
  refine wq_idiv (pc := 7) dY_byWeek_7 s2 ?_
  refine wq_re (x := (wr (Int.tdiv (x2 - 1) (gI M 2 4)))) (y := (Int.tdiv (x2 - 1) (gI M 2 4))) (Eq.trans (wr_eq (by omega) (by omega)) (by omega)) ?_
  refine wq_istore_n (pc := 8) (lo' := [iR 2, iI x1, iI x2, iI (Int.tdiv (x2 - 1) (gI M 2 4)), none, none, none]) dY_byWeek_8 rfl rfl rfl ?_
  refine wq_iload_n (pc := 9) dY_byWeek_9 rfl rfl ?_
  refine wq_iload_n (pc := 10) dY_byWeek_10 rfl rfl ?_
  refine wq_aload_n (pc := 11) dY_byWeek_11 rfl rfl ?_
  refine wq_getI (pc := 12) (z := 4) dY_byWeek_12 fO_Y_32 sh_2 rfl rfl ?_
  refine wq_imul (pc := 15) dY_byWeek_15 ?_
  refine wq_isub (pc := 16) dY_byWeek_16 ?_
  refine wq_re (x := (wr (x2 - wr (Int.tdiv (x2 - 1) (gI M 2 4) * gI M 2 4)))) (y := (x2 - Int.tdiv (x2 - 1) (gI M 2 4) * gI M 2 4)) (by (try simp only [wr_al, wr_ar, wr_sl, wr_sr, wr_ml, wr_mr, wr_nn, wr_ww]); exact Eq.trans (wr_eq (by omega) (by omega)) (by omega)) ?_
  refine wq_istore (pc := 17) (lo' := [iR 2, iI x1, iI x2, iI (Int.tdiv (x2 - 1) (gI M 2 4)), iI (x2 - Int.tdiv (x2 - 1) (gI M 2 4) * gI M 2 4), none, none]) dY_byWeek_17 rfl rfl ?_
  refine wq_iload_n (pc := 19) dY_byWeek_19 rfl rfl ?_
  refine wq_bipush (pc := 20) dY_byWeek_20 rfl ?_
  refine wq_iload_n (pc := 22) dY_byWeek_22 rfl rfl ?_
  refine wq_imul (pc := 23) dY_byWeek_23 ?_
  refine wq_iadd (pc := 24) dY_byWeek_24 ?_
  refine wq_re (x := (wr (x1 + wr (7 * Int.tdiv (x2 - 1) (gI M 2 4))))) (y := (x1 + 7 * Int.tdiv (x2 - 1) (gI M 2 4))) (by (try simp only [wr_al, wr_ar, wr_sl, wr_sr, wr_ml, wr_mr, wr_nn, wr_ww]); exact Eq.trans (wr_eq (by omega) (by omega)) (by omega)) ?_
  refine wq_istore (pc := 25) (lo' := [iR 2, iI x1, iI x2, iI (Int.tdiv (x2 - 1) (gI M 2 4)), iI (x2 - Int.tdiv (x2 - 1) (gI M 2 4) * gI M 2 4), iI (x1 + 7 * Int.tdiv (x2 - 1) (gI M 2 4)), none]) dY_byWeek_25 rfl rfl ?_
  refine wq_iconst (pc := 27) dY_byWeek_27 rfl ?_
  refine wq_istore (pc := 28) (lo' := [iR 2, iI x1, iI x2, iI (Int.tdiv (x2 - 1) (gI M 2 4)), iI (x2 - Int.tdiv (x2 - 1) (gI M 2 4) * gI M 2 4), iI (x1 + 7 * Int.tdiv (x2 - 1) (gI M 2 4)), iI 0]) dY_byWeek_28 rfl rfl ?_
  exact H

set_option maxRecDepth 20000 in
theorem B_Y_byWeek_30 {x1 x2 x3 x4 x5 x6 : Int} {M : Mm} {Q : Mm → Option Mv → Prop} (H : ((7 ≤ x6 → Q M (some (vI x5))) ∧ (¬ 7 ≤ x6 → ((x4 ≤ 0 → Q M (some (vI x5))) ∧ (¬ x4 ≤ 0 → (((-2147483648 ≤ Int.tmod x5 7 ∧ Int.tmod x5 7 < 2147483648) ∧ (-2147483648 ≤ x4 - bAnd (bShr (gI M 2 3) (Int.tmod x5 7)) 1 ∧ x4 - bAnd (bShr (gI M 2 3) (Int.tmod x5 7)) 1 < 2147483648) ∧ (-2147483648 ≤ x5 + 1 ∧ x5 + 1 < 2147483648) ∧ (-2147483648 ≤ x6 + 1 ∧ x6 + 1 < 2147483648)) ∧ Wq 1 0 0 mY_byWeek 30 [iR 2, iI x1, iI x2, iI x3, iI (x4 - bAnd (bShr (gI M 2 3) (Int.tmod x5 7)) 1), iI (x5 + 1), iI (x6 + 1)] [] M Q)))))) : Wq 1 0 0 mY_byWeek 30 [iR 2, iI x1, iI x2, iI x3, iI x4, iI x5, iI x6] [] M Q := by
  refine wq_iload (pc := 30) dY_byWeek_30 rfl ?_
  refine wq_bipush (pc := 32) dY_byWeek_32 rfl ?_
  refine wq_icmp_ge (pc := 34) (tgt := 68) dY_byWeek_34 (by decide) (fun c1 => ?_) (fun c1 => ?_)
  · have H := H.1 c1
    refine wq_iload (pc := 68) dY_byWeek_68 rfl ?_
    refine wq_ireturn (pc := 70) dY_byWeek_70 trivial ?_
    exact H
  · have H := H.2 c1
    refine wq_iload (pc := 37) dY_byWeek_37 rfl ?_
    refine wq_if_le (pc := 39) (tgt := 68) dY_byWeek_39 (by decide) (fun c2 => ?_) (fun c2 => ?_)
    · have H := H.1 c2
      refine wq_iload (pc := 68) dY_byWeek_68 rfl ?_
      refine wq_ireturn (pc := 70) dY_byWeek_70 trivial ?_
      exact H
    · have H := H.2 c2
      obtain ⟨⟨s3, s4, s5, s6⟩, H⟩ := H
      refine wq_iload (pc := 42) dY_byWeek_42 rfl ?_
      refine wq_aload_n (pc := 44) dY_byWeek_44 rfl rfl ?_
      refine wq_getI (pc := 45) (z := 3) dY_byWeek_45 fO_Y_23 sh_2 rfl rfl ?_
      refine wq_iload (pc := 48) dY_byWeek_48 rfl ?_
      refine wq_bipush (pc := 50) dY_byWeek_50 rfl ?_
      refine wq_irem (pc := 52) dY_byWeek_52 (by decide) ?_
      refine wq_re (x := (wr (Int.tmod x5 7))) (y := (Int.tmod x5 7)) (Eq.trans (wr_eq (by omega) (by omega)) (by omega)) ?_
      refine wq_ishr (pc := 53) dY_byWeek_53 ?_
      refine wq_iconst (pc := 54) dY_byWeek_54 rfl ?_
      refine wq_iand (pc := 55) dY_byWeek_55 ?_
      refine wq_isub (pc := 56) dY_byWeek_56 ?_
      refine wq_re (x := (wr (x4 - bAnd (bShr (gI M 2 3) (Int.tmod x5 7)) 1))) (y := (x4 - bAnd (bShr (gI M 2 3) (Int.tmod x5 7)) 1)) (Eq.trans (wr_eq (by omega) (by omega)) (by omega)) ?_
      refine wq_istore (pc := 57) (lo' := [iR 2, iI x1, iI x2, iI x3, iI (x4 - bAnd (bShr (gI M 2 3) (Int.tmod x5 7)) 1), iI x5, iI x6]) dY_byWeek_57 rfl rfl ?_
      refine wq_iinc (pc := 59) (lo' := [iR 2, iI x1, iI x2, iI x3, iI (x4 - bAnd (bShr (gI M 2 3) (Int.tmod x5 7)) 1), iI (x5 + 1), iI x6]) dY_byWeek_59 rfl rfl (by rw [show wr (x5 + 1) = x5 + 1 from (Eq.trans (wr_eq (by omega) (by omega)) (by omega))]; rfl) ?_
      refine wq_iinc (pc := 62) (lo' := [iR 2, iI x1, iI x2, iI x3, iI (x4 - bAnd (bShr (gI M 2 3) (Int.tmod x5 7)) 1), iI (x5 + 1), iI (x6 + 1)]) dY_byWeek_62 rfl rfl (by rw [show wr (x6 + 1) = x6 + 1 from (Eq.trans (wr_eq (by omega) (by omega)) (by omega))]; rfl) ?_
      refine wq_goto (pc := 65) (tgt := 30) dY_byWeek_65 (by decide) ?_
      exact H
set_option maxRecDepth 20000 in
theorem B_Y_firstWith_0 {x1 x2 : Int} {M : Mm} {Q : Mm → Option Mv → Prop} (H : ((-2147483648 ≤ x2 + 1 ∧ x2 + 1 < 2147483648) ∧ Wq 1 0 0 mY_firstWith 12 [iR 2, iI x1, iI x2, iI (x2 + 1), iI 900, iI 0, none] [] M Q)) : Wq 1 0 0 mY_firstWith 0 [iR 2, iI x1, iI x2, none, none, none, none] [] M Q := by
  obtain ⟨s1, H⟩ := H
  refine wq_iload_n (pc := 0) dY_firstWith_0 rfl rfl ?_
  refine wq_iconst (pc := 1) dY_firstWith_1 rfl ?_
  refine wq_iadd (pc := 2) dY_firstWith_2 ?_
  refine wq_re (x := (wr (x2 + 1))) (y := (x2 + 1)) (Eq.trans (wr_eq (by omega) (by omega)) (by omega)) ?_
  refine wq_istore_n (pc := 3) (lo' := [iR 2, iI x1, iI x2, iI (x2 + 1), none, none, none]) dY_firstWith_3 rfl rfl rfl ?_
  refine wq_sipush (pc := 4) dY_firstWith_4 rfl ?_
  refine wq_istore (pc := 7) (lo' := [iR 2, iI x1, iI x2, iI (x2 + 1), iI 900, none, none]) dY_firstWith_7 rfl rfl ?_
  refine wq_iconst (pc := 9) dY_firstWith_9 rfl ?_
  refine wq_istore (pc := 10) (lo' := [iR 2, iI x1, iI x2, iI (x2 + 1), iI 900, iI 0, none]) dY_firstWith_10 rfl rfl ?_
  exact H

set_option maxRecDepth 20000 in
theorem B_Y_firstWith_12 {x1 x2 x3 x4 x5 : Int} {M : Mm} {Q : Mm → Option Mv → Prop} (hS : RefOK M) (H : ((900 ≤ x5 → Q M (some (vI x4))) ∧ (¬ 900 ≤ x5 → ((x4 ≤ x3 → Q M (some (vI x4))) ∧ (¬ x4 ≤ x3 → (((-2147483648 ≤ x3 + x4 ∧ x3 + x4 < 2147483648) ∧ (-2147483648 ≤ Int.tdiv (x3 + x4) 2 ∧ Int.tdiv (x3 + x4) 2 < 2147483648) ∧ (0 ≤ Int.tdiv (x3 + x4) 2 ∧ Int.tdiv (x3 + x4) 2 < 901)) ∧ ((gI M 4 (Int.tdiv (x3 + x4) 2) < x1 → (((-2147483648 ≤ Int.tdiv (x3 + x4) 2 + 1 ∧ Int.tdiv (x3 + x4) 2 + 1 < 2147483648) ∧ (-2147483648 ≤ x5 + 1 ∧ x5 + 1 < 2147483648)) ∧ Wq 1 0 0 mY_firstWith 12 [iR 2, iI x1, iI x2, iI (Int.tdiv (x3 + x4) 2 + 1), iI x4, iI (x5 + 1), none] [] M Q)) ∧ (¬ gI M 4 (Int.tdiv (x3 + x4) 2) < x1 → ((-2147483648 ≤ x5 + 1 ∧ x5 + 1 < 2147483648) ∧ Wq 1 0 0 mY_firstWith 12 [iR 2, iI x1, iI x2, iI x3, iI (Int.tdiv (x3 + x4) 2), iI (x5 + 1), none] [] M Q))))))))) : Wq 1 0 0 mY_firstWith 12 [iR 2, iI x1, iI x2, iI x3, iI x4, iI x5, none] [] M Q := by
  refine wq_iload (pc := 12) dY_firstWith_12 rfl ?_
  refine wq_sipush (pc := 14) dY_firstWith_14 rfl ?_
  refine wq_icmp_ge (pc := 17) (tgt := 63) dY_firstWith_17 (by decide) (fun c1 => ?_) (fun c1 => ?_)
  · have H := H.1 c1
    refine wq_iload (pc := 63) dY_firstWith_63 rfl ?_
    refine wq_ireturn (pc := 65) dY_firstWith_65 trivial ?_
    exact H
  · have H := H.2 c1
    refine wq_iload_n (pc := 20) dY_firstWith_20 rfl rfl ?_
    refine wq_iload (pc := 21) dY_firstWith_21 rfl ?_
    refine wq_icmp_ge (pc := 23) (tgt := 63) dY_firstWith_23 (by decide) (fun c2 => ?_) (fun c2 => ?_)
    · have H := H.1 c2
      refine wq_iload (pc := 63) dY_firstWith_63 rfl ?_
      refine wq_ireturn (pc := 65) dY_firstWith_65 trivial ?_
      exact H
    · have H := H.2 c2
      obtain ⟨⟨s3, s4, s5⟩, H⟩ := H
      refine wq_iload_n (pc := 26) dY_firstWith_26 rfl rfl ?_
      refine wq_iload (pc := 27) dY_firstWith_27 rfl ?_
      refine wq_iadd (pc := 29) dY_firstWith_29 ?_
      refine wq_iconst (pc := 30) dY_firstWith_30 rfl ?_
      refine wq_re2 (x := (wr (x3 + x4))) (y := (x3 + x4)) (Eq.trans (wr_eq (by omega) (by omega)) (by omega)) ?_
      refine wq_idiv (pc := 31) dY_firstWith_31 (by decide) ?_
      refine wq_re (x := (wr (Int.tdiv (x3 + x4) 2))) (y := (Int.tdiv (x3 + x4) 2)) (Eq.trans (wr_eq (by omega) (by omega)) (by omega)) ?_
      refine wq_istore (pc := 32) (lo' := [iR 2, iI x1, iI x2, iI x3, iI x4, iI x5, iI (Int.tdiv (x3 + x4) 2)]) dY_firstWith_32 rfl rfl ?_
      refine wq_aload_n (pc := 34) dY_firstWith_34 rfl rfl ?_
      refine wq_getR (pc := 35) (z := 1) (b := 4) dY_firstWith_35 fO_Y_15 sh_2 rfl rfl (rf_2_1 hS) ?_
      refine wq_iload (pc := 38) dY_firstWith_38 rfl ?_
      refine wq_iald (pc := 40) dY_firstWith_40 sh_4 s5.1 s5.2 ?_
      refine wq_iload_n (pc := 41) dY_firstWith_41 rfl rfl ?_
      refine wq_icmp_lt (pc := 42) (tgt := 52) dY_firstWith_42 (by decide) (fun c6 => ?_) (fun c6 => ?_)
      · have H := H.1 c6
        obtain ⟨⟨s7, s8⟩, H⟩ := H
        refine wq_iload (pc := 52) dY_firstWith_52 rfl ?_
        refine wq_iconst (pc := 54) dY_firstWith_54 rfl ?_
        refine wq_iadd (pc := 55) dY_firstWith_55 ?_
        refine wq_re (x := (wr (Int.tdiv (x3 + x4) 2 + 1))) (y := (Int.tdiv (x3 + x4) 2 + 1)) (Eq.trans (wr_eq (by omega) (by omega)) (by omega)) ?_
        refine wq_istore_n (pc := 56) (lo' := [iR 2, iI x1, iI x2, iI (Int.tdiv (x3 + x4) 2 + 1), iI x4, iI x5, iI (Int.tdiv (x3 + x4) 2)]) dY_firstWith_56 rfl rfl rfl ?_
        refine wq_iinc (pc := 57) (lo' := [iR 2, iI x1, iI x2, iI (Int.tdiv (x3 + x4) 2 + 1), iI x4, iI (x5 + 1), iI (Int.tdiv (x3 + x4) 2)]) dY_firstWith_57 rfl rfl (by rw [show wr (x5 + 1) = x5 + 1 from (Eq.trans (wr_eq (by omega) (by omega)) (by omega))]; rfl) ?_
        refine wq_goto (pc := 60) (tgt := 12) dY_firstWith_60 (by decide) ?_
        refine wq_drop [6] (lo' := [iR 2, iI x1, iI x2, iI (Int.tdiv (x3 + x4) 2 + 1), iI x4, iI (x5 + 1), none]) rfl ?_
        exact H
      · have H := H.2 c6
        obtain ⟨s9, H⟩ := H
        refine wq_iload (pc := 45) dY_firstWith_45 rfl ?_
        refine wq_istore (pc := 47) (lo' := [iR 2, iI x1, iI x2, iI x3, iI (Int.tdiv (x3 + x4) 2), iI x5, iI (Int.tdiv (x3 + x4) 2)]) dY_firstWith_47 rfl rfl ?_
        refine wq_goto (pc := 49) (tgt := 57) dY_firstWith_49 (by decide) ?_
        refine wq_iinc (pc := 57) (lo' := [iR 2, iI x1, iI x2, iI x3, iI (Int.tdiv (x3 + x4) 2), iI (x5 + 1), iI (Int.tdiv (x3 + x4) 2)]) dY_firstWith_57 rfl rfl (by rw [show wr (x5 + 1) = x5 + 1 from (Eq.trans (wr_eq (by omega) (by omega)) (by omega))]; rfl) ?_
        refine wq_goto (pc := 60) (tgt := 12) dY_firstWith_60 (by decide) ?_
        refine wq_drop [6] (lo' := [iR 2, iI x1, iI x2, iI x3, iI (Int.tdiv (x3 + x4) 2), iI (x5 + 1), none]) rfl ?_
        exact H
