set_option maxRecDepth 20000 in
theorem B_M_here_0 {M : Mm} {Q : Mm → Option Mv → Prop} (hS : RefOK M) (H : ((¬ gI M 80 18 = 0 → Q M (some (vI (-1)))) ∧ (gI M 80 18 = 0 → ((gI M 81 7 ≤ gI M 80 16 → Q M (some (vI (-1)))) ∧ (¬ gI M 81 7 ≤ gI M 80 16 → ((0 ≤ 1933 + gI M 80 16 ∧ 1933 + gI M 80 16 < 1993) ∧ Q M (some (vI (gI M 81 (1933 + gI M 80 16)))))))))) : Wq 1 0 0 mM_here 0 [iR 80] [] M Q := by
  refine wq_aload_n (pc := 0) dM_here_0 rfl rfl ?_
  refine wq_getI (pc := 1) (z := 18) dM_here_1 fO_M_192 sh_80 rfl rfl ?_
  refine wq_if_ne (pc := 4) (tgt := 37) dM_here_4 (by decide) (fun c1 => ?_) (fun c1 => ?_)
  · have H := H.1 c1
    refine wq_iconst (pc := 37) dM_here_37 rfl ?_
    refine wq_ireturn (pc := 38) dM_here_38 trivial ?_
    exact H
  · have H := H.2 c1
    refine wq_aload_n (pc := 7) dM_here_7 rfl rfl ?_
    refine wq_getI (pc := 8) (z := 16) dM_here_8 fO_M_195 sh_80 rfl rfl ?_
    refine wq_aload_n (pc := 11) dM_here_11 rfl rfl ?_
    refine wq_getR (pc := 12) (z := 0) (b := 81) dM_here_12 fO_M_9 sh_80 rfl rfl (rf_80_0 hS) ?_
    refine wq_bipush (pc := 15) dM_here_15 rfl ?_
    refine wq_iald (pc := 17) dM_here_17 sh_81 (by decide) (by decide) ?_
    refine wq_icmp_ge (pc := 18) (tgt := 37) dM_here_18 (by decide) (fun c2 => ?_) (fun c2 => ?_)
    · have H := H.1 c2
      refine wq_iconst (pc := 37) dM_here_37 rfl ?_
      refine wq_ireturn (pc := 38) dM_here_38 trivial ?_
      exact H
    · have H := H.2 c2
      obtain ⟨s3, H⟩ := H
      refine wq_aload_n (pc := 21) dM_here_21 rfl rfl ?_
      refine wq_getR (pc := 22) (z := 0) (b := 81) dM_here_22 fO_M_9 sh_80 rfl rfl (rf_80_0 hS) ?_
      refine wq_sipush (pc := 25) dM_here_25 rfl ?_
      refine wq_aload_n (pc := 28) dM_here_28 rfl rfl ?_
      refine wq_getI (pc := 29) (z := 16) dM_here_29 fO_M_195 sh_80 rfl rfl ?_
      refine wq_iadd (pc := 32) dM_here_32 ?_
      refine wq_re (x := (wr (1933 + gI M 80 16))) (y := (1933 + gI M 80 16)) (Eq.trans (wr_eq (by omega) (by omega)) (by omega)) ?_
      refine wq_iald (pc := 33) dM_here_33 sh_81 s3.1 s3.2 ?_
      refine wq_goto (pc := 34) (tgt := 38) dM_here_34 (by decide) ?_
      refine wq_ireturn (pc := 38) dM_here_38 trivial ?_
      exact H
set_option maxRecDepth 20000 in
theorem B_M_put1_0 {x1 : Int} {M : Mm} {Q : Mm → Option Mv → Prop} (hS : RefOK M) (H : ((¬ gI M 80 18 = 0 → Q M none) ∧ (gI M 80 18 = 0 → (((0 ≤ gI M 80 20 ∧ gI M 80 20 < 70) ∧ (-2147483648 ≤ gI M 80 20 + 1 ∧ gI M 80 20 + 1 < 2147483648)) ∧ Q (sI (sI M 94 (gI M 80 20) x1) 80 20 (gI M 80 20 + 1)) none)))) : Wq 1 0 0 mM_put1 0 [iR 80, iI x1] [] M Q := by
  refine wq_aload_n (pc := 0) dM_put1_0 rfl rfl ?_
  refine wq_getI (pc := 1) (z := 18) dM_put1_1 fO_M_192 sh_80 rfl rfl ?_
  refine wq_if_ne (pc := 4) (tgt := 27) dM_put1_4 (by decide) (fun c1 => ?_) (fun c1 => ?_)
  · have H := H.1 c1
    refine wq_return (pc := 27) dM_put1_27 trivial ?_
    exact H
  · have H := H.2 c1
    obtain ⟨⟨s2, s3⟩, H⟩ := H
    refine wq_aload_n (pc := 7) dM_put1_7 rfl rfl ?_
    refine wq_getR (pc := 8) (z := 19) (b := 94) dM_put1_8 fO_M_49 sh_80 rfl rfl (rf_80_19 hS) ?_
    refine wq_aload_n (pc := 11) dM_put1_11 rfl rfl ?_
    refine wq_getI (pc := 12) (z := 20) dM_put1_12 fO_M_199 sh_80 rfl rfl ?_
    refine wq_iload_n (pc := 15) dM_put1_15 rfl rfl ?_
    refine wq_iast (pc := 16) dM_put1_16 sh_94 (by decide) s2.1 s2.2 ?_
    refine wq_aload_n (pc := 17) dM_put1_17 rfl rfl ?_
    refine wq_dup (pc := 18) dM_put1_18 rfl ?_
    refine wq_getI (pc := 19) (z := 20) dM_put1_19 fO_M_199 sh_80 rfl rfl ?_
    refine wq_re (x := (gI (sI M 94 (gI M 80 20) x1) 80 20)) (y := (gI M 80 20)) rfl ?_
    refine wq_iconst (pc := 22) dM_put1_22 rfl ?_
    refine wq_iadd (pc := 23) dM_put1_23 ?_
    refine wq_re (x := (wr (gI M 80 20 + 1))) (y := (gI M 80 20 + 1)) (Eq.trans (wr_eq (by omega) (by omega)) (by omega)) ?_
    refine wq_putI (pc := 24) (z := 20) dM_put1_24 fW_M_199 sh_80 rfl rfl ?_
    refine wq_return (pc := 27) dM_put1_27 trivial ?_
    exact H
set_option maxRecDepth 20000 in
theorem B_M_nameOf_0 {x0 : Int} {M : Mm} {Q : Mm → Option Mv → Prop} (H : ((x0 = 99 → Q M (some (vI 0))) ∧ (x0 = 100 → Q M (some (vI 1))) ∧ (x0 = 102 → Q M (some (vI 5))) ∧ (x0 = 107 → Q M (some (vI 2))) ∧ (x0 = 110 → Q M (some (vI 3))) ∧ (x0 = 116 → Q M (some (vI 4))) ∧ (¬ x0 = 99 ∧ ¬ x0 = 100 ∧ ¬ x0 = 102 ∧ ¬ x0 = 107 ∧ ¬ x0 = 110 ∧ ¬ x0 = 116 → Q M (some (vI (-1)))))) : Wq 1 0 0 mM_nameOf 0 [iI x0] [] M Q := by
  refine wq_iload_n (pc := 0) dM_nameOf_0 rfl rfl ?_
  by_cases c1 : x0 = 99
  · refine wq_tabIn (pc := 1) (tgt := 88) dM_nameOf_1 (by rw [c1]; decide) (by rw [c1]; decide) (by rw [c1]; rfl) (by decide) ?_
    have H := H.1 c1
    refine wq_iconst (pc := 88) dM_nameOf_88 rfl ?_
    refine wq_ireturn (pc := 89) dM_nameOf_89 trivial ?_
    exact H
  by_cases c2 : x0 = 100
  · refine wq_tabIn (pc := 1) (tgt := 90) dM_nameOf_1 (by rw [c2]; decide) (by rw [c2]; decide) (by rw [c2]; rfl) (by decide) ?_
    have H := H.2.1 c2
    refine wq_iconst (pc := 90) dM_nameOf_90 rfl ?_
    refine wq_ireturn (pc := 91) dM_nameOf_91 trivial ?_
    exact H
  by_cases c3 : x0 = 102
  · refine wq_tabIn (pc := 1) (tgt := 98) dM_nameOf_1 (by rw [c3]; decide) (by rw [c3]; decide) (by rw [c3]; rfl) (by decide) ?_
    have H := H.2.2.1 c3
    refine wq_iconst (pc := 98) dM_nameOf_98 rfl ?_
    refine wq_ireturn (pc := 99) dM_nameOf_99 trivial ?_
    exact H
  by_cases c4 : x0 = 107
  · refine wq_tabIn (pc := 1) (tgt := 92) dM_nameOf_1 (by rw [c4]; decide) (by rw [c4]; decide) (by rw [c4]; rfl) (by decide) ?_
    have H := H.2.2.2.1 c4
    refine wq_iconst (pc := 92) dM_nameOf_92 rfl ?_
    refine wq_ireturn (pc := 93) dM_nameOf_93 trivial ?_
    exact H
  by_cases c5 : x0 = 110
  · refine wq_tabIn (pc := 1) (tgt := 94) dM_nameOf_1 (by rw [c5]; decide) (by rw [c5]; decide) (by rw [c5]; rfl) (by decide) ?_
    have H := H.2.2.2.2.1 c5
    refine wq_iconst (pc := 94) dM_nameOf_94 rfl ?_
    refine wq_ireturn (pc := 95) dM_nameOf_95 trivial ?_
    exact H
  by_cases c6 : x0 = 116
  · refine wq_tabIn (pc := 1) (tgt := 96) dM_nameOf_1 (by rw [c6]; decide) (by rw [c6]; decide) (by rw [c6]; rfl) (by decide) ?_
    have H := H.2.2.2.2.2.1 c6
    refine wq_iconst (pc := 96) dM_nameOf_96 rfl ?_
    refine wq_ireturn (pc := 97) dM_nameOf_97 trivial ?_
    exact H
  by_cases c7 : x0 < 99 ∨ 116 < x0
  · refine wq_tabOut (pc := 1) (tgt := 100) dM_nameOf_1 c7 (by decide) ?_
    have H := H.2.2.2.2.2.2 (by omega)
    refine wq_iconst (pc := 100) dM_nameOf_100 rfl ?_
    refine wq_ireturn (pc := 101) dM_nameOf_101 trivial ?_
    exact H
  have c7r : x0 = 101 ∨ x0 = 103 ∨ x0 = 104 ∨ x0 = 105 ∨ x0 = 106 ∨ x0 = 108 ∨ x0 = 109 ∨ x0 = 111 ∨ x0 = 112 ∨ x0 = 113 ∨ x0 = 114 ∨ x0 = 115 := by omega
  rcases c7r with c7r | c7r | c7r | c7r | c7r | c7r | c7r | c7r | c7r | c7r | c7r | c7r
  · refine wq_tabIn (pc := 1) (tgt := 100) dM_nameOf_1 (by rw [c7r]; decide) (by rw [c7r]; decide) (by rw [c7r]; rfl) (by decide) ?_
    have H := H.2.2.2.2.2.2 (by omega)
    refine wq_iconst (pc := 100) dM_nameOf_100 rfl ?_
    refine wq_ireturn (pc := 101) dM_nameOf_101 trivial ?_
    exact H
  · refine wq_tabIn (pc := 1) (tgt := 100) dM_nameOf_1 (by rw [c7r]; decide) (by rw [c7r]; decide) (by rw [c7r]; rfl) (by decide) ?_
    have H := H.2.2.2.2.2.2 (by omega)
    refine wq_iconst (pc := 100) dM_nameOf_100 rfl ?_
    refine wq_ireturn (pc := 101) dM_nameOf_101 trivial ?_
    exact H
  · refine wq_tabIn (pc := 1) (tgt := 100) dM_nameOf_1 (by rw [c7r]; decide) (by rw [c7r]; decide) (by rw [c7r]; rfl) (by decide) ?_
    have H := H.2.2.2.2.2.2 (by omega)
    refine wq_iconst (pc := 100) dM_nameOf_100 rfl ?_
    refine wq_ireturn (pc := 101) dM_nameOf_101 trivial ?_
    exact H
  · refine wq_tabIn (pc := 1) (tgt := 100) dM_nameOf_1 (by rw [c7r]; decide) (by rw [c7r]; decide) (by rw [c7r]; rfl) (by decide) ?_
    have H := H.2.2.2.2.2.2 (by omega)
    refine wq_iconst (pc := 100) dM_nameOf_100 rfl ?_
    refine wq_ireturn (pc := 101) dM_nameOf_101 trivial ?_
    exact H
  · refine wq_tabIn (pc := 1) (tgt := 100) dM_nameOf_1 (by rw [c7r]; decide) (by rw [c7r]; decide) (by rw [c7r]; rfl) (by decide) ?_
    have H := H.2.2.2.2.2.2 (by omega)
    refine wq_iconst (pc := 100) dM_nameOf_100 rfl ?_
    refine wq_ireturn (pc := 101) dM_nameOf_101 trivial ?_
    exact H
  · refine wq_tabIn (pc := 1) (tgt := 100) dM_nameOf_1 (by rw [c7r]; decide) (by rw [c7r]; decide) (by rw [c7r]; rfl) (by decide) ?_
    have H := H.2.2.2.2.2.2 (by omega)
    refine wq_iconst (pc := 100) dM_nameOf_100 rfl ?_
    refine wq_ireturn (pc := 101) dM_nameOf_101 trivial ?_
    exact H
  · refine wq_tabIn (pc := 1) (tgt := 100) dM_nameOf_1 (by rw [c7r]; decide) (by rw [c7r]; decide) (by rw [c7r]; rfl) (by decide) ?_
    have H := H.2.2.2.2.2.2 (by omega)
    refine wq_iconst (pc := 100) dM_nameOf_100 rfl ?_
    refine wq_ireturn (pc := 101) dM_nameOf_101 trivial ?_
    exact H
  · refine wq_tabIn (pc := 1) (tgt := 100) dM_nameOf_1 (by rw [c7r]; decide) (by rw [c7r]; decide) (by rw [c7r]; rfl) (by decide) ?_
    have H := H.2.2.2.2.2.2 (by omega)
    refine wq_iconst (pc := 100) dM_nameOf_100 rfl ?_
    refine wq_ireturn (pc := 101) dM_nameOf_101 trivial ?_
    exact H
  · refine wq_tabIn (pc := 1) (tgt := 100) dM_nameOf_1 (by rw [c7r]; decide) (by rw [c7r]; decide) (by rw [c7r]; rfl) (by decide) ?_
    have H := H.2.2.2.2.2.2 (by omega)
    refine wq_iconst (pc := 100) dM_nameOf_100 rfl ?_
    refine wq_ireturn (pc := 101) dM_nameOf_101 trivial ?_
    exact H
  · refine wq_tabIn (pc := 1) (tgt := 100) dM_nameOf_1 (by rw [c7r]; decide) (by rw [c7r]; decide) (by rw [c7r]; rfl) (by decide) ?_
    have H := H.2.2.2.2.2.2 (by omega)
    refine wq_iconst (pc := 100) dM_nameOf_100 rfl ?_
    refine wq_ireturn (pc := 101) dM_nameOf_101 trivial ?_
    exact H
  · refine wq_tabIn (pc := 1) (tgt := 100) dM_nameOf_1 (by rw [c7r]; decide) (by rw [c7r]; decide) (by rw [c7r]; rfl) (by decide) ?_
    have H := H.2.2.2.2.2.2 (by omega)
    refine wq_iconst (pc := 100) dM_nameOf_100 rfl ?_
    refine wq_ireturn (pc := 101) dM_nameOf_101 trivial ?_
    exact H
  · refine wq_tabIn (pc := 1) (tgt := 100) dM_nameOf_1 (by rw [c7r]; decide) (by rw [c7r]; decide) (by rw [c7r]; rfl) (by decide) ?_
    have H := H.2.2.2.2.2.2 (by omega)
    refine wq_iconst (pc := 100) dM_nameOf_100 rfl ?_
    refine wq_ireturn (pc := 101) dM_nameOf_101 trivial ?_
    exact H
set_option maxRecDepth 20000 in
theorem B_M_opens_0 {M : Mm} {Q : Mm → Option Mv → Prop} (H : ((¬ gI M 80 18 = 0 → Q (sI M 80 18 1) (some (vI 0))) ∧ (gI M 80 18 = 0 → ((¬ gI M 80 17 = 5 → (((-2147483648 ≤ gI M 80 17 + 1 ∧ gI M 80 17 + 1 < 2147483648) ∧ (-2147483648 ≤ gI M 80 16 + 1 ∧ gI M 80 16 + 1 < 2147483648)) ∧ Q (sI (sI (sI M 80 18 0) 80 17 (gI M 80 17 + 1)) 80 16 (gI M 80 16 + 1)) (some (vI 1)))) ∧ (gI M 80 17 = 5 → Q (sI M 80 18 1) (some (vI 0))))))) : Wq 1 0 0 mM_opens 0 [iR 80] [] M Q := by
  refine wq_aload_n (pc := 0) dM_opens_0 rfl rfl ?_
  refine wq_aload_n (pc := 1) dM_opens_1 rfl rfl ?_
  refine wq_getI (pc := 2) (z := 18) dM_opens_2 fO_M_192 sh_80 rfl rfl ?_
  refine wq_if_ne (pc := 5) (tgt := 16) dM_opens_5 (by decide) (fun c1 => ?_) (fun c1 => ?_)
  · have H := H.1 c1
    refine wq_iconst (pc := 16) dM_opens_16 rfl ?_
    refine wq_goto (pc := 17) (tgt := 21) dM_opens_17 (by decide) ?_
    refine wq_putZ (pc := 21) (z := 18) dM_opens_21 fW_M_192 sh_80 rfl rfl (Or.inr rfl) ?_
    refine wq_aload_n (pc := 24) dM_opens_24 rfl rfl ?_
    refine wq_getI (pc := 25) (z := 18) dM_opens_25 fO_M_192 sh_80 rfl rfl ?_
    refine wq_re (x := (gI (sI M 80 18 1) 80 18)) (y := 1) rfl ?_
    refine wq_if_ne (pc := 28) (tgt := 51) dM_opens_28 (by decide) (fun _ => ?_) (fun q => absurd q (by decide))
    refine wq_aload_n (pc := 51) dM_opens_51 rfl rfl ?_
    refine wq_getI (pc := 52) (z := 18) dM_opens_52 fO_M_192 sh_80 rfl rfl ?_
    refine wq_re (x := (gI (sI M 80 18 1) 80 18)) (y := 1) rfl ?_
    refine wq_if_ne (pc := 55) (tgt := 62) dM_opens_55 (by decide) (fun _ => ?_) (fun q => absurd q (by decide))
    refine wq_iconst (pc := 62) dM_opens_62 rfl ?_
    refine wq_ireturn (pc := 63) dM_opens_63 (Or.inl rfl) ?_
    exact H
  · have H := H.2 c1
    refine wq_aload_n (pc := 8) dM_opens_8 rfl rfl ?_
    refine wq_getI (pc := 9) (z := 17) dM_opens_9 fO_M_223 sh_80 rfl rfl ?_
    refine wq_iconst (pc := 12) dM_opens_12 rfl ?_
    refine wq_icmp_ne (pc := 13) (tgt := 20) dM_opens_13 (by decide) (fun c2 => ?_) (fun c2 => ?_)
    · have H := H.1 c2
      obtain ⟨⟨s3, s4⟩, H⟩ := H
      refine wq_iconst (pc := 20) dM_opens_20 rfl ?_
      refine wq_putZ (pc := 21) (z := 18) dM_opens_21 fW_M_192 sh_80 rfl rfl (Or.inl rfl) ?_
      refine wq_aload_n (pc := 24) dM_opens_24 rfl rfl ?_
      refine wq_getI (pc := 25) (z := 18) dM_opens_25 fO_M_192 sh_80 rfl rfl ?_
      refine wq_re (x := (gI (sI M 80 18 0) 80 18)) (y := 0) rfl ?_
      refine wq_if_ne (pc := 28) (tgt := 51) dM_opens_28 (by decide) (fun q => absurd q (by decide)) (fun _ => ?_)
      refine wq_aload_n (pc := 31) dM_opens_31 rfl rfl ?_
      refine wq_dup (pc := 32) dM_opens_32 rfl ?_
      refine wq_getI (pc := 33) (z := 17) dM_opens_33 fO_M_223 sh_80 rfl rfl ?_
      refine wq_re (x := (gI (sI M 80 18 0) 80 17)) (y := (gI M 80 17)) rfl ?_
      refine wq_iconst (pc := 36) dM_opens_36 rfl ?_
      refine wq_iadd (pc := 37) dM_opens_37 ?_
      refine wq_re (x := (wr (gI M 80 17 + 1))) (y := (gI M 80 17 + 1)) (Eq.trans (wr_eq (by omega) (by omega)) (by omega)) ?_
      refine wq_putI (pc := 38) (z := 17) dM_opens_38 fW_M_223 sh_80 rfl rfl ?_
      refine wq_aload_n (pc := 41) dM_opens_41 rfl rfl ?_
      refine wq_dup (pc := 42) dM_opens_42 rfl ?_
      refine wq_getI (pc := 43) (z := 16) dM_opens_43 fO_M_195 sh_80 rfl rfl ?_
      refine wq_re (x := (gI (sI (sI M 80 18 0) 80 17 (gI M 80 17 + 1)) 80 16)) (y := (gI M 80 16)) rfl ?_
      refine wq_iconst (pc := 46) dM_opens_46 rfl ?_
      refine wq_iadd (pc := 47) dM_opens_47 ?_
      refine wq_re (x := (wr (gI M 80 16 + 1))) (y := (gI M 80 16 + 1)) (Eq.trans (wr_eq (by omega) (by omega)) (by omega)) ?_
      refine wq_putI (pc := 48) (z := 16) dM_opens_48 fW_M_195 sh_80 rfl rfl ?_
      refine wq_aload_n (pc := 51) dM_opens_51 rfl rfl ?_
      refine wq_getI (pc := 52) (z := 18) dM_opens_52 fO_M_192 sh_80 rfl rfl ?_
      refine wq_re (x := (gI (sI (sI (sI M 80 18 0) 80 17 (gI M 80 17 + 1)) 80 16 (gI M 80 16 + 1)) 80 18)) (y := 0) rfl ?_
      refine wq_if_ne (pc := 55) (tgt := 62) dM_opens_55 (by decide) (fun q => absurd q (by decide)) (fun _ => ?_)
      refine wq_iconst (pc := 58) dM_opens_58 rfl ?_
      refine wq_goto (pc := 59) (tgt := 63) dM_opens_59 (by decide) ?_
      refine wq_ireturn (pc := 63) dM_opens_63 (Or.inr rfl) ?_
      exact H
    · have H := H.2 c2
      refine wq_iconst (pc := 16) dM_opens_16 rfl ?_
      refine wq_goto (pc := 17) (tgt := 21) dM_opens_17 (by decide) ?_
      refine wq_putZ (pc := 21) (z := 18) dM_opens_21 fW_M_192 sh_80 rfl rfl (Or.inr rfl) ?_
      refine wq_aload_n (pc := 24) dM_opens_24 rfl rfl ?_
      refine wq_getI (pc := 25) (z := 18) dM_opens_25 fO_M_192 sh_80 rfl rfl ?_
      refine wq_re (x := (gI (sI M 80 18 1) 80 18)) (y := 1) rfl ?_
      refine wq_if_ne (pc := 28) (tgt := 51) dM_opens_28 (by decide) (fun _ => ?_) (fun q => absurd q (by decide))
      refine wq_aload_n (pc := 51) dM_opens_51 rfl rfl ?_
      refine wq_getI (pc := 52) (z := 18) dM_opens_52 fO_M_192 sh_80 rfl rfl ?_
      refine wq_re (x := (gI (sI M 80 18 1) 80 18)) (y := 1) rfl ?_
      refine wq_if_ne (pc := 55) (tgt := 62) dM_opens_55 (by decide) (fun _ => ?_) (fun q => absurd q (by decide))
      refine wq_iconst (pc := 62) dM_opens_62 rfl ?_
      refine wq_ireturn (pc := 63) dM_opens_63 (Or.inl rfl) ?_
      exact H
set_option maxRecDepth 20000 in
theorem B_M_either_0 {d : Nat} {M : Mm} {Q : Mm → Option Mv → Prop} (H : Wq (d + 2) 0 0 mM_both 0 [iR 80] [] M (fun M' v => Wq (d + 3) 0 0 mM_either 4 [iR 80] (v.toList ++ []) M' Q)) : Wq (d + 3) 0 0 mM_either 0 [iR 80] [] M Q := by
  refine wq_aload_n (pc := 0) dM_either_0 rfl rfl ?_
  refine wq_callV (d' := (d + 2)) (pc := 1) (as := []) (rest := []) (lo' := [iR 80]) dM_either_1 mO_M_both lV_M_202 sh_80 (by decide) cl_11 rfl rfl rfl rfl rfl (blt_d d) ?_
  exact H

set_option maxRecDepth 20000 in
theorem B_M_either_4 {d : Nat} {M : Mm} {Q : Mm → Option Mv → Prop} (H : Wq 1 0 0 mM_here 0 [iR 80] [] M (fun M' v => Wq (d + 3) 0 0 mM_either 8 [iR 80] (v.toList ++ []) M' Q)) : Wq (d + 3) 0 0 mM_either 4 [iR 80] [] M Q := by
  refine wq_aload_n (pc := 4) dM_either_4 rfl rfl ?_
  refine wq_callV (d' := 1) (pc := 5) (as := []) (rest := []) (lo' := [iR 80]) dM_either_5 mO_M_here lV_M_205 sh_80 (by decide) cl_11 rfl rfl rfl rfl rfl rfl ?_
  exact H

set_option maxRecDepth 20000 in
theorem B_M_either_8 {d : Nat} {y0 : Int} {M : Mm} {Q : Mm → Option Mv → Prop} (H : ((¬ y0 = 124 → Q M none) ∧ (y0 = 124 → ((-2147483648 ≤ gI M 80 16 + 1 ∧ gI M 80 16 + 1 < 2147483648) ∧ Wq (d + 2) 0 0 mM_both 0 [iR 80] [] (sI M 80 16 (gI M 80 16 + 1)) (fun M' v => Wq (d + 3) 0 0 mM_either 27 [iR 80] (v.toList ++ []) M' Q))))) : Wq (d + 3) 0 0 mM_either 8 [iR 80] [vI y0] M Q := by
  refine wq_bipush (pc := 8) dM_either_8 rfl ?_
  refine wq_icmp_ne (pc := 10) (tgt := 37) dM_either_10 (by decide) (fun c1 => ?_) (fun c1 => ?_)
  · have H := H.1 c1
    refine wq_return (pc := 37) dM_either_37 trivial ?_
    exact H
  · have H := H.2 c1
    obtain ⟨s2, H⟩ := H
    refine wq_aload_n (pc := 13) dM_either_13 rfl rfl ?_
    refine wq_dup (pc := 14) dM_either_14 rfl ?_
    refine wq_getI (pc := 15) (z := 16) dM_either_15 fO_M_195 sh_80 rfl rfl ?_
    refine wq_iconst (pc := 18) dM_either_18 rfl ?_
    refine wq_iadd (pc := 19) dM_either_19 ?_
    refine wq_re (x := (wr (gI M 80 16 + 1))) (y := (gI M 80 16 + 1)) (Eq.trans (wr_eq (by omega) (by omega)) (by omega)) ?_
    refine wq_putI (pc := 20) (z := 16) dM_either_20 fW_M_195 sh_80 rfl rfl ?_
    refine wq_aload_n (pc := 23) dM_either_23 rfl rfl ?_
    refine wq_callV (d' := (d + 2)) (pc := 24) (as := []) (rest := []) (lo' := [iR 80]) dM_either_24 mO_M_both lV_M_202 sh_80 (by decide) cl_11 rfl rfl rfl rfl rfl (blt_d d) ?_
    exact H

set_option maxRecDepth 20000 in
theorem B_M_either_27 {d : Nat} {M : Mm} {Q : Mm → Option Mv → Prop} (H : Wq 1 0 0 mM_put1 0 [iR 80, iI 20000] [] M (fun M' v => Wq (d + 3) 0 0 mM_either 34 [iR 80] (v.toList ++ []) M' Q)) : Wq (d + 3) 0 0 mM_either 27 [iR 80] [] M Q := by
  refine wq_aload_n (pc := 27) dM_either_27 rfl rfl ?_
  refine wq_sipush (pc := 28) dM_either_28 rfl ?_
  refine wq_callV (d' := 1) (pc := 31) (as := [vI 20000]) (rest := []) (lo' := [iR 80, iI 20000]) dM_either_31 mO_M_put1 lV_M_208 sh_80 (by decide) cl_11 rfl rfl rfl rfl rfl rfl ?_
  exact H

set_option maxRecDepth 20000 in
theorem B_M_either_34 {d : Nat} {M : Mm} {Q : Mm → Option Mv → Prop} (H : Wq (d + 3) 0 0 mM_either 4 [iR 80] [] M Q) : Wq (d + 3) 0 0 mM_either 34 [iR 80] [] M Q := by
  refine wq_goto (pc := 34) (tgt := 4) dM_either_34 (by decide) ?_
  exact H
set_option maxRecDepth 20000 in
theorem B_M_both_0 {d : Nat} {M : Mm} {Q : Mm → Option Mv → Prop} (H : Wq (d + 2) 0 0 mM_test 0 [iR 80, none] [] M (fun M' v => Wq (d + 3) 0 0 mM_both 4 [iR 80] (v.toList ++ []) M' Q)) : Wq (d + 3) 0 0 mM_both 0 [iR 80] [] M Q := by
  refine wq_aload_n (pc := 0) dM_both_0 rfl rfl ?_
  refine wq_callV (d' := (d + 2)) (pc := 1) (as := []) (rest := []) (lo' := [iR 80, none]) dM_both_1 mO_M_test lV_M_211 sh_80 (by decide) cl_11 rfl rfl rfl rfl rfl (blt_d d) ?_
  exact H

set_option maxRecDepth 20000 in
theorem B_M_both_4 {d : Nat} {M : Mm} {Q : Mm → Option Mv → Prop} (H : Wq 1 0 0 mM_here 0 [iR 80] [] M (fun M' v => Wq (d + 3) 0 0 mM_both 8 [iR 80] (v.toList ++ []) M' Q)) : Wq (d + 3) 0 0 mM_both 4 [iR 80] [] M Q := by
  refine wq_aload_n (pc := 4) dM_both_4 rfl rfl ?_
  refine wq_callV (d' := 1) (pc := 5) (as := []) (rest := []) (lo' := [iR 80]) dM_both_5 mO_M_here lV_M_205 sh_80 (by decide) cl_11 rfl rfl rfl rfl rfl rfl ?_
  exact H

set_option maxRecDepth 20000 in
theorem B_M_both_8 {d : Nat} {y0 : Int} {M : Mm} {Q : Mm → Option Mv → Prop} (H : ((¬ y0 = 38 → Q M none) ∧ (y0 = 38 → ((-2147483648 ≤ gI M 80 16 + 1 ∧ gI M 80 16 + 1 < 2147483648) ∧ Wq (d + 2) 0 0 mM_test 0 [iR 80, none] [] (sI M 80 16 (gI M 80 16 + 1)) (fun M' v => Wq (d + 3) 0 0 mM_both 27 [iR 80] (v.toList ++ []) M' Q))))) : Wq (d + 3) 0 0 mM_both 8 [iR 80] [vI y0] M Q := by
  refine wq_bipush (pc := 8) dM_both_8 rfl ?_
  refine wq_icmp_ne (pc := 10) (tgt := 37) dM_both_10 (by decide) (fun c1 => ?_) (fun c1 => ?_)
  · have H := H.1 c1
    refine wq_return (pc := 37) dM_both_37 trivial ?_
    exact H
  · have H := H.2 c1
    obtain ⟨s2, H⟩ := H
    refine wq_aload_n (pc := 13) dM_both_13 rfl rfl ?_
    refine wq_dup (pc := 14) dM_both_14 rfl ?_
    refine wq_getI (pc := 15) (z := 16) dM_both_15 fO_M_195 sh_80 rfl rfl ?_
    refine wq_iconst (pc := 18) dM_both_18 rfl ?_
    refine wq_iadd (pc := 19) dM_both_19 ?_
    refine wq_re (x := (wr (gI M 80 16 + 1))) (y := (gI M 80 16 + 1)) (Eq.trans (wr_eq (by omega) (by omega)) (by omega)) ?_
    refine wq_putI (pc := 20) (z := 16) dM_both_20 fW_M_195 sh_80 rfl rfl ?_
    refine wq_aload_n (pc := 23) dM_both_23 rfl rfl ?_
    refine wq_callV (d' := (d + 2)) (pc := 24) (as := []) (rest := []) (lo' := [iR 80, none]) dM_both_24 mO_M_test lV_M_211 sh_80 (by decide) cl_11 rfl rfl rfl rfl rfl (blt_d d) ?_
    exact H

set_option maxRecDepth 20000 in
theorem B_M_both_27 {d : Nat} {M : Mm} {Q : Mm → Option Mv → Prop} (H : Wq 1 0 0 mM_put1 0 [iR 80, iI 20001] [] M (fun M' v => Wq (d + 3) 0 0 mM_both 34 [iR 80] (v.toList ++ []) M' Q)) : Wq (d + 3) 0 0 mM_both 27 [iR 80] [] M Q := by
  refine wq_aload_n (pc := 27) dM_both_27 rfl rfl ?_
  refine wq_sipush (pc := 28) dM_both_28 rfl ?_
  refine wq_callV (d' := 1) (pc := 31) (as := [vI 20001]) (rest := []) (lo' := [iR 80, iI 20001]) dM_both_31 mO_M_put1 lV_M_208 sh_80 (by decide) cl_11 rfl rfl rfl rfl rfl rfl ?_
  exact H

set_option maxRecDepth 20000 in
theorem B_M_both_34 {d : Nat} {M : Mm} {Q : Mm → Option Mv → Prop} (H : Wq (d + 3) 0 0 mM_both 4 [iR 80] [] M Q) : Wq (d + 3) 0 0 mM_both 34 [iR 80] [] M Q := by
  refine wq_goto (pc := 34) (tgt := 4) dM_both_34 (by decide) ?_
  exact H
set_option maxRecDepth 20000 in
theorem B_M_test_0 {d : Nat} {M : Mm} {Q : Mm → Option Mv → Prop} (H : Wq (d + 2) 0 0 mM_sum 0 [iR 80, none] [] M (fun M' v => Wq (d + 3) 0 0 mM_test 4 [iR 80, none] (v.toList ++ []) M' Q)) : Wq (d + 3) 0 0 mM_test 0 [iR 80, none] [] M Q := by
  refine wq_aload_n (pc := 0) dM_test_0 rfl rfl ?_
  refine wq_callV (d' := (d + 2)) (pc := 1) (as := []) (rest := []) (lo' := [iR 80, none]) dM_test_1 mO_M_sum lV_M_214 sh_80 (by decide) cl_11 rfl rfl rfl rfl rfl (blt_d d) ?_
  exact H

set_option maxRecDepth 20000 in
theorem B_M_test_4 {d : Nat} {M : Mm} {Q : Mm → Option Mv → Prop} (H : Wq 1 0 0 mM_here 0 [iR 80] [] M (fun M' v => Wq (d + 3) 0 0 mM_test 8 [iR 80, none] (v.toList ++ []) M' Q)) : Wq (d + 3) 0 0 mM_test 4 [iR 80, none] [] M Q := by
  refine wq_aload_n (pc := 4) dM_test_4 rfl rfl ?_
  refine wq_callV (d' := 1) (pc := 5) (as := []) (rest := []) (lo' := [iR 80]) dM_test_5 mO_M_here lV_M_205 sh_80 (by decide) cl_11 rfl rfl rfl rfl rfl rfl ?_
  exact H

set_option maxRecDepth 20000 in
theorem B_M_test_8 {d : Nat} {y0 : Int} {M : Mm} {Q : Mm → Option Mv → Prop} (H : ((y0 = 60 → ((-2147483648 ≤ gI M 80 16 + 1 ∧ gI M 80 16 + 1 < 2147483648) ∧ Wq (d + 2) 0 0 mM_sum 0 [iR 80, none] [] (sI M 80 16 (gI M 80 16 + 1)) (fun M' v => Wq (d + 3) 0 0 mM_test 41 [iR 80, iI y0] (v.toList ++ []) M' Q))) ∧ (¬ y0 = 60 → ((y0 = 61 → ((-2147483648 ≤ gI M 80 16 + 1 ∧ gI M 80 16 + 1 < 2147483648) ∧ Wq (d + 2) 0 0 mM_sum 0 [iR 80, none] [] (sI M 80 16 (gI M 80 16 + 1)) (fun M' v => Wq (d + 3) 0 0 mM_test 41 [iR 80, iI y0] (v.toList ++ []) M' Q))) ∧ (¬ y0 = 61 → ((¬ y0 = 62 → Q M none) ∧ (y0 = 62 → ((-2147483648 ≤ gI M 80 16 + 1 ∧ gI M 80 16 + 1 < 2147483648) ∧ Wq (d + 2) 0 0 mM_sum 0 [iR 80, none] [] (sI M 80 16 (gI M 80 16 + 1)) (fun M' v => Wq (d + 3) 0 0 mM_test 41 [iR 80, iI y0] (v.toList ++ []) M' Q))))))))) : Wq (d + 3) 0 0 mM_test 8 [iR 80, none] [vI y0] M Q := by
  refine wq_istore_n (pc := 8) (lo' := [iR 80, iI y0]) dM_test_8 rfl rfl rfl ?_
  refine wq_iload_n (pc := 9) dM_test_9 rfl rfl ?_
  refine wq_bipush (pc := 10) dM_test_10 rfl ?_
  refine wq_icmp_eq (pc := 12) (tgt := 27) dM_test_12 (by decide) (fun c1 => ?_) (fun c1 => ?_)
  · have H := H.1 c1
    obtain ⟨s2, H⟩ := H
    refine wq_aload_n (pc := 27) dM_test_27 rfl rfl ?_
    refine wq_dup (pc := 28) dM_test_28 rfl ?_
    refine wq_getI (pc := 29) (z := 16) dM_test_29 fO_M_195 sh_80 rfl rfl ?_
    refine wq_iconst (pc := 32) dM_test_32 rfl ?_
    refine wq_iadd (pc := 33) dM_test_33 ?_
    refine wq_re (x := (wr (gI M 80 16 + 1))) (y := (gI M 80 16 + 1)) (Eq.trans (wr_eq (by omega) (by omega)) (by omega)) ?_
    refine wq_putI (pc := 34) (z := 16) dM_test_34 fW_M_195 sh_80 rfl rfl ?_
    refine wq_aload_n (pc := 37) dM_test_37 rfl rfl ?_
    refine wq_callV (d' := (d + 2)) (pc := 38) (as := []) (rest := []) (lo' := [iR 80, none]) dM_test_38 mO_M_sum lV_M_214 sh_80 (by decide) cl_11 rfl rfl rfl rfl rfl (blt_d d) ?_
    exact H
  · have H := H.2 c1
    refine wq_iload_n (pc := 15) dM_test_15 rfl rfl ?_
    refine wq_bipush (pc := 16) dM_test_16 rfl ?_
    refine wq_icmp_eq (pc := 18) (tgt := 27) dM_test_18 (by decide) (fun c3 => ?_) (fun c3 => ?_)
    · have H := H.1 c3
      obtain ⟨s4, H⟩ := H
      refine wq_aload_n (pc := 27) dM_test_27 rfl rfl ?_
      refine wq_dup (pc := 28) dM_test_28 rfl ?_
      refine wq_getI (pc := 29) (z := 16) dM_test_29 fO_M_195 sh_80 rfl rfl ?_
      refine wq_iconst (pc := 32) dM_test_32 rfl ?_
      refine wq_iadd (pc := 33) dM_test_33 ?_
      refine wq_re (x := (wr (gI M 80 16 + 1))) (y := (gI M 80 16 + 1)) (Eq.trans (wr_eq (by omega) (by omega)) (by omega)) ?_
      refine wq_putI (pc := 34) (z := 16) dM_test_34 fW_M_195 sh_80 rfl rfl ?_
      refine wq_aload_n (pc := 37) dM_test_37 rfl rfl ?_
      refine wq_callV (d' := (d + 2)) (pc := 38) (as := []) (rest := []) (lo' := [iR 80, none]) dM_test_38 mO_M_sum lV_M_214 sh_80 (by decide) cl_11 rfl rfl rfl rfl rfl (blt_d d) ?_
      exact H
    · have H := H.2 c3
      refine wq_iload_n (pc := 21) dM_test_21 rfl rfl ?_
      refine wq_bipush (pc := 22) dM_test_22 rfl ?_
      refine wq_icmp_ne (pc := 24) (tgt := 72) dM_test_24 (by decide) (fun c5 => ?_) (fun c5 => ?_)
      · have H := H.1 c5
        refine wq_return (pc := 72) dM_test_72 trivial ?_
        exact H
      · have H := H.2 c5
        obtain ⟨s6, H⟩ := H
        refine wq_aload_n (pc := 27) dM_test_27 rfl rfl ?_
        refine wq_dup (pc := 28) dM_test_28 rfl ?_
        refine wq_getI (pc := 29) (z := 16) dM_test_29 fO_M_195 sh_80 rfl rfl ?_
        refine wq_iconst (pc := 32) dM_test_32 rfl ?_
        refine wq_iadd (pc := 33) dM_test_33 ?_
        refine wq_re (x := (wr (gI M 80 16 + 1))) (y := (gI M 80 16 + 1)) (Eq.trans (wr_eq (by omega) (by omega)) (by omega)) ?_
        refine wq_putI (pc := 34) (z := 16) dM_test_34 fW_M_195 sh_80 rfl rfl ?_
        refine wq_aload_n (pc := 37) dM_test_37 rfl rfl ?_
        refine wq_callV (d' := (d + 2)) (pc := 38) (as := []) (rest := []) (lo' := [iR 80, none]) dM_test_38 mO_M_sum lV_M_214 sh_80 (by decide) cl_11 rfl rfl rfl rfl rfl (blt_d d) ?_
        exact H

set_option maxRecDepth 20000 in
theorem B_M_test_41 {d : Nat} {x1 : Int} {M : Mm} {Q : Mm → Option Mv → Prop} (H : ((¬ x1 = 60 → ((¬ x1 = 61 → Wq 1 0 0 mM_put1 0 [iR 80, iI 20004] [] M (fun M' v => Wq (d + 3) 0 0 mM_test 72 [iR 80, iI x1] (v.toList ++ []) M' Q)) ∧ (x1 = 61 → Wq 1 0 0 mM_put1 0 [iR 80, iI 20003] [] M (fun M' v => Wq (d + 3) 0 0 mM_test 72 [iR 80, iI x1] (v.toList ++ []) M' Q)))) ∧ (x1 = 60 → Wq 1 0 0 mM_put1 0 [iR 80, iI 20002] [] M (fun M' v => Wq (d + 3) 0 0 mM_test 72 [iR 80, iI x1] (v.toList ++ []) M' Q)))) : Wq (d + 3) 0 0 mM_test 41 [iR 80, iI x1] [] M Q := by
  refine wq_aload_n (pc := 41) dM_test_41 rfl rfl ?_
  refine wq_iload_n (pc := 42) dM_test_42 rfl rfl ?_
  refine wq_bipush (pc := 43) dM_test_43 rfl ?_
  refine wq_icmp_ne (pc := 45) (tgt := 54) dM_test_45 (by decide) (fun c1 => ?_) (fun c1 => ?_)
  · have H := H.1 c1
    refine wq_iload_n (pc := 54) dM_test_54 rfl rfl ?_
    refine wq_bipush (pc := 55) dM_test_55 rfl ?_
    refine wq_icmp_ne (pc := 57) (tgt := 66) dM_test_57 (by decide) (fun c2 => ?_) (fun c2 => ?_)
    · have H := H.1 c2
      refine wq_sipush (pc := 66) dM_test_66 rfl ?_
      refine wq_callV (d' := 1) (pc := 69) (as := [vI 20004]) (rest := []) (lo' := [iR 80, iI 20004]) dM_test_69 mO_M_put1 lV_M_208 sh_80 (by decide) cl_11 rfl rfl rfl rfl rfl rfl ?_
      exact H
    · have H := H.2 c2
      refine wq_sipush (pc := 60) dM_test_60 rfl ?_
      refine wq_goto (pc := 63) (tgt := 69) dM_test_63 (by decide) ?_
      refine wq_callV (d' := 1) (pc := 69) (as := [vI 20003]) (rest := []) (lo' := [iR 80, iI 20003]) dM_test_69 mO_M_put1 lV_M_208 sh_80 (by decide) cl_11 rfl rfl rfl rfl rfl rfl ?_
      exact H
  · have H := H.2 c1
    refine wq_sipush (pc := 48) dM_test_48 rfl ?_
    refine wq_goto (pc := 51) (tgt := 69) dM_test_51 (by decide) ?_
    refine wq_callV (d' := 1) (pc := 69) (as := [vI 20002]) (rest := []) (lo' := [iR 80, iI 20002]) dM_test_69 mO_M_put1 lV_M_208 sh_80 (by decide) cl_11 rfl rfl rfl rfl rfl rfl ?_
    exact H

set_option maxRecDepth 20000 in
theorem B_M_test_72 {d : Nat} {x1 : Int} {M : Mm} {Q : Mm → Option Mv → Prop} (H : Q M none) : Wq (d + 3) 0 0 mM_test 72 [iR 80, iI x1] [] M Q := by
  refine wq_return (pc := 72) dM_test_72 trivial ?_
  exact H
set_option maxRecDepth 20000 in
theorem B_M_sum_0 {d : Nat} {M : Mm} {Q : Mm → Option Mv → Prop} (H : Wq (d + 2) 0 0 mM_product 0 [iR 80, none] [] M (fun M' v => Wq (d + 3) 0 0 mM_sum 4 [iR 80, none] (v.toList ++ []) M' Q)) : Wq (d + 3) 0 0 mM_sum 0 [iR 80, none] [] M Q := by
  refine wq_aload_n (pc := 0) dM_sum_0 rfl rfl ?_
  refine wq_callV (d' := (d + 2)) (pc := 1) (as := []) (rest := []) (lo' := [iR 80, none]) dM_sum_1 mO_M_product lV_M_217 sh_80 (by decide) cl_11 rfl rfl rfl rfl rfl (blt_d d) ?_
  exact H

set_option maxRecDepth 20000 in
theorem B_M_sum_4 {d : Nat} {M : Mm} {Q : Mm → Option Mv → Prop} (H : Wq 1 0 0 mM_here 0 [iR 80] [] M (fun M' v => Wq (d + 3) 0 0 mM_sum 8 [iR 80, none] (v.toList ++ []) M' Q)) : Wq (d + 3) 0 0 mM_sum 4 [iR 80, none] [] M Q := by
  refine wq_aload_n (pc := 4) dM_sum_4 rfl rfl ?_
  refine wq_callV (d' := 1) (pc := 5) (as := []) (rest := []) (lo' := [iR 80]) dM_sum_5 mO_M_here lV_M_205 sh_80 (by decide) cl_11 rfl rfl rfl rfl rfl rfl ?_
  exact H

set_option maxRecDepth 20000 in
theorem B_M_sum_8 {d : Nat} {y0 : Int} {M : Mm} {Q : Mm → Option Mv → Prop} (H : Wq (d + 3) 0 0 mM_sum 9 [iR 80, iI y0] [] M Q) : Wq (d + 3) 0 0 mM_sum 8 [iR 80, none] [vI y0] M Q := by
  refine wq_istore_n (pc := 8) (lo' := [iR 80, iI y0]) dM_sum_8 rfl rfl rfl ?_
  exact H

set_option maxRecDepth 20000 in
theorem B_M_sum_9 {d : Nat} {x1 : Int} {M : Mm} {Q : Mm → Option Mv → Prop} (H : ((x1 = 43 → ((-2147483648 ≤ gI M 80 16 + 1 ∧ gI M 80 16 + 1 < 2147483648) ∧ Wq (d + 2) 0 0 mM_product 0 [iR 80, none] [] (sI M 80 16 (gI M 80 16 + 1)) (fun M' v => Wq (d + 3) 0 0 mM_sum 35 [iR 80, iI x1] (v.toList ++ []) M' Q))) ∧ (¬ x1 = 43 → ((¬ x1 = 45 → Q M none) ∧ (x1 = 45 → ((-2147483648 ≤ gI M 80 16 + 1 ∧ gI M 80 16 + 1 < 2147483648) ∧ Wq (d + 2) 0 0 mM_product 0 [iR 80, none] [] (sI M 80 16 (gI M 80 16 + 1)) (fun M' v => Wq (d + 3) 0 0 mM_sum 35 [iR 80, iI x1] (v.toList ++ []) M' Q))))))) : Wq (d + 3) 0 0 mM_sum 9 [iR 80, iI x1] [] M Q := by
  refine wq_iload_n (pc := 9) dM_sum_9 rfl rfl ?_
  refine wq_bipush (pc := 10) dM_sum_10 rfl ?_
  refine wq_icmp_eq (pc := 12) (tgt := 21) dM_sum_12 (by decide) (fun c1 => ?_) (fun c1 => ?_)
  · have H := H.1 c1
    obtain ⟨s2, H⟩ := H
    refine wq_aload_n (pc := 21) dM_sum_21 rfl rfl ?_
    refine wq_dup (pc := 22) dM_sum_22 rfl ?_
    refine wq_getI (pc := 23) (z := 16) dM_sum_23 fO_M_195 sh_80 rfl rfl ?_
    refine wq_iconst (pc := 26) dM_sum_26 rfl ?_
    refine wq_iadd (pc := 27) dM_sum_27 ?_
    refine wq_re (x := (wr (gI M 80 16 + 1))) (y := (gI M 80 16 + 1)) (Eq.trans (wr_eq (by omega) (by omega)) (by omega)) ?_
    refine wq_putI (pc := 28) (z := 16) dM_sum_28 fW_M_195 sh_80 rfl rfl ?_
    refine wq_aload_n (pc := 31) dM_sum_31 rfl rfl ?_
    refine wq_callV (d' := (d + 2)) (pc := 32) (as := []) (rest := []) (lo' := [iR 80, none]) dM_sum_32 mO_M_product lV_M_217 sh_80 (by decide) cl_11 rfl rfl rfl rfl rfl (blt_d d) ?_
    exact H
  · have H := H.2 c1
    refine wq_iload_n (pc := 15) dM_sum_15 rfl rfl ?_
    refine wq_bipush (pc := 16) dM_sum_16 rfl ?_
    refine wq_icmp_ne (pc := 18) (tgt := 62) dM_sum_18 (by decide) (fun c3 => ?_) (fun c3 => ?_)
    · have H := H.1 c3
      refine wq_return (pc := 62) dM_sum_62 trivial ?_
      exact H
    · have H := H.2 c3
      obtain ⟨s4, H⟩ := H
      refine wq_aload_n (pc := 21) dM_sum_21 rfl rfl ?_
      refine wq_dup (pc := 22) dM_sum_22 rfl ?_
      refine wq_getI (pc := 23) (z := 16) dM_sum_23 fO_M_195 sh_80 rfl rfl ?_
      refine wq_iconst (pc := 26) dM_sum_26 rfl ?_
      refine wq_iadd (pc := 27) dM_sum_27 ?_
      refine wq_re (x := (wr (gI M 80 16 + 1))) (y := (gI M 80 16 + 1)) (Eq.trans (wr_eq (by omega) (by omega)) (by omega)) ?_
      refine wq_putI (pc := 28) (z := 16) dM_sum_28 fW_M_195 sh_80 rfl rfl ?_
      refine wq_aload_n (pc := 31) dM_sum_31 rfl rfl ?_
      refine wq_callV (d' := (d + 2)) (pc := 32) (as := []) (rest := []) (lo' := [iR 80, none]) dM_sum_32 mO_M_product lV_M_217 sh_80 (by decide) cl_11 rfl rfl rfl rfl rfl (blt_d d) ?_
      exact H

set_option maxRecDepth 20000 in
theorem B_M_sum_35 {d : Nat} {x1 : Int} {M : Mm} {Q : Mm → Option Mv → Prop} (H : ((¬ x1 = 43 → Wq 1 0 0 mM_put1 0 [iR 80, iI 20006] [] M (fun M' v => Wq (d + 3) 0 0 mM_sum 54 [iR 80, iI x1] (v.toList ++ []) M' Q)) ∧ (x1 = 43 → Wq 1 0 0 mM_put1 0 [iR 80, iI 20005] [] M (fun M' v => Wq (d + 3) 0 0 mM_sum 54 [iR 80, iI x1] (v.toList ++ []) M' Q)))) : Wq (d + 3) 0 0 mM_sum 35 [iR 80, iI x1] [] M Q := by
  refine wq_aload_n (pc := 35) dM_sum_35 rfl rfl ?_
  refine wq_iload_n (pc := 36) dM_sum_36 rfl rfl ?_
  refine wq_bipush (pc := 37) dM_sum_37 rfl ?_
  refine wq_icmp_ne (pc := 39) (tgt := 48) dM_sum_39 (by decide) (fun c1 => ?_) (fun c1 => ?_)
  · have H := H.1 c1
    refine wq_sipush (pc := 48) dM_sum_48 rfl ?_
    refine wq_callV (d' := 1) (pc := 51) (as := [vI 20006]) (rest := []) (lo' := [iR 80, iI 20006]) dM_sum_51 mO_M_put1 lV_M_208 sh_80 (by decide) cl_11 rfl rfl rfl rfl rfl rfl ?_
    exact H
  · have H := H.2 c1
    refine wq_sipush (pc := 42) dM_sum_42 rfl ?_
    refine wq_goto (pc := 45) (tgt := 51) dM_sum_45 (by decide) ?_
    refine wq_callV (d' := 1) (pc := 51) (as := [vI 20005]) (rest := []) (lo' := [iR 80, iI 20005]) dM_sum_51 mO_M_put1 lV_M_208 sh_80 (by decide) cl_11 rfl rfl rfl rfl rfl rfl ?_
    exact H

set_option maxRecDepth 20000 in
theorem B_M_sum_54 {d : Nat} {x1 : Int} {M : Mm} {Q : Mm → Option Mv → Prop} (H : Wq 1 0 0 mM_here 0 [iR 80] [] M (fun M' v => Wq (d + 3) 0 0 mM_sum 58 [iR 80, iI x1] (v.toList ++ []) M' Q)) : Wq (d + 3) 0 0 mM_sum 54 [iR 80, iI x1] [] M Q := by
  refine wq_aload_n (pc := 54) dM_sum_54 rfl rfl ?_
  refine wq_callV (d' := 1) (pc := 55) (as := []) (rest := []) (lo' := [iR 80]) dM_sum_55 mO_M_here lV_M_205 sh_80 (by decide) cl_11 rfl rfl rfl rfl rfl rfl ?_
  exact H

set_option maxRecDepth 20000 in
theorem B_M_sum_58 {d : Nat} {x1 y0 : Int} {M : Mm} {Q : Mm → Option Mv → Prop} (H : Wq (d + 3) 0 0 mM_sum 9 [iR 80, iI y0] [] M Q) : Wq (d + 3) 0 0 mM_sum 58 [iR 80, iI x1] [vI y0] M Q := by
  refine wq_istore_n (pc := 58) (lo' := [iR 80, iI y0]) dM_sum_58 rfl rfl rfl ?_
  refine wq_goto (pc := 59) (tgt := 9) dM_sum_59 (by decide) ?_
  exact H
set_option maxRecDepth 20000 in
theorem B_M_product_0 {d : Nat} {M : Mm} {Q : Mm → Option Mv → Prop} (H : Wq (d + 2) 0 0 mM_part 0 [iR 80, none, none, none] [] M (fun M' v => Wq (d + 3) 0 0 mM_product 4 [iR 80, none] (v.toList ++ []) M' Q)) : Wq (d + 3) 0 0 mM_product 0 [iR 80, none] [] M Q := by
  refine wq_aload_n (pc := 0) dM_product_0 rfl rfl ?_
  refine wq_callV (d' := (d + 2)) (pc := 1) (as := []) (rest := []) (lo' := [iR 80, none, none, none]) dM_product_1 mO_M_part lV_M_220 sh_80 (by decide) cl_11 rfl rfl rfl rfl rfl (blt_d d) ?_
  exact H

set_option maxRecDepth 20000 in
theorem B_M_product_4 {d : Nat} {M : Mm} {Q : Mm → Option Mv → Prop} (H : Wq 1 0 0 mM_here 0 [iR 80] [] M (fun M' v => Wq (d + 3) 0 0 mM_product 8 [iR 80, none] (v.toList ++ []) M' Q)) : Wq (d + 3) 0 0 mM_product 4 [iR 80, none] [] M Q := by
  refine wq_aload_n (pc := 4) dM_product_4 rfl rfl ?_
  refine wq_callV (d' := 1) (pc := 5) (as := []) (rest := []) (lo' := [iR 80]) dM_product_5 mO_M_here lV_M_205 sh_80 (by decide) cl_11 rfl rfl rfl rfl rfl rfl ?_
  exact H

set_option maxRecDepth 20000 in
theorem B_M_product_8 {d : Nat} {y0 : Int} {M : Mm} {Q : Mm → Option Mv → Prop} (H : Wq (d + 3) 0 0 mM_product 9 [iR 80, iI y0] [] M Q) : Wq (d + 3) 0 0 mM_product 8 [iR 80, none] [vI y0] M Q := by
  refine wq_istore_n (pc := 8) (lo' := [iR 80, iI y0]) dM_product_8 rfl rfl rfl ?_
  exact H

set_option maxRecDepth 20000 in
theorem B_M_product_9 {d : Nat} {x1 : Int} {M : Mm} {Q : Mm → Option Mv → Prop} (H : ((x1 = 42 → ((-2147483648 ≤ gI M 80 16 + 1 ∧ gI M 80 16 + 1 < 2147483648) ∧ Wq (d + 2) 0 0 mM_part 0 [iR 80, none, none, none] [] (sI M 80 16 (gI M 80 16 + 1)) (fun M' v => Wq (d + 3) 0 0 mM_product 35 [iR 80, iI x1] (v.toList ++ []) M' Q))) ∧ (¬ x1 = 42 → ((¬ x1 = 47 → Q M none) ∧ (x1 = 47 → ((-2147483648 ≤ gI M 80 16 + 1 ∧ gI M 80 16 + 1 < 2147483648) ∧ Wq (d + 2) 0 0 mM_part 0 [iR 80, none, none, none] [] (sI M 80 16 (gI M 80 16 + 1)) (fun M' v => Wq (d + 3) 0 0 mM_product 35 [iR 80, iI x1] (v.toList ++ []) M' Q))))))) : Wq (d + 3) 0 0 mM_product 9 [iR 80, iI x1] [] M Q := by
  refine wq_iload_n (pc := 9) dM_product_9 rfl rfl ?_
  refine wq_bipush (pc := 10) dM_product_10 rfl ?_
  refine wq_icmp_eq (pc := 12) (tgt := 21) dM_product_12 (by decide) (fun c1 => ?_) (fun c1 => ?_)
  · have H := H.1 c1
    obtain ⟨s2, H⟩ := H
    refine wq_aload_n (pc := 21) dM_product_21 rfl rfl ?_
    refine wq_dup (pc := 22) dM_product_22 rfl ?_
    refine wq_getI (pc := 23) (z := 16) dM_product_23 fO_M_195 sh_80 rfl rfl ?_
    refine wq_iconst (pc := 26) dM_product_26 rfl ?_
    refine wq_iadd (pc := 27) dM_product_27 ?_
    refine wq_re (x := (wr (gI M 80 16 + 1))) (y := (gI M 80 16 + 1)) (Eq.trans (wr_eq (by omega) (by omega)) (by omega)) ?_
    refine wq_putI (pc := 28) (z := 16) dM_product_28 fW_M_195 sh_80 rfl rfl ?_
    refine wq_aload_n (pc := 31) dM_product_31 rfl rfl ?_
    refine wq_callV (d' := (d + 2)) (pc := 32) (as := []) (rest := []) (lo' := [iR 80, none, none, none]) dM_product_32 mO_M_part lV_M_220 sh_80 (by decide) cl_11 rfl rfl rfl rfl rfl (blt_d d) ?_
    exact H
  · have H := H.2 c1
    refine wq_iload_n (pc := 15) dM_product_15 rfl rfl ?_
    refine wq_bipush (pc := 16) dM_product_16 rfl ?_
    refine wq_icmp_ne (pc := 18) (tgt := 62) dM_product_18 (by decide) (fun c3 => ?_) (fun c3 => ?_)
    · have H := H.1 c3
      refine wq_return (pc := 62) dM_product_62 trivial ?_
      exact H
    · have H := H.2 c3
      obtain ⟨s4, H⟩ := H
      refine wq_aload_n (pc := 21) dM_product_21 rfl rfl ?_
      refine wq_dup (pc := 22) dM_product_22 rfl ?_
      refine wq_getI (pc := 23) (z := 16) dM_product_23 fO_M_195 sh_80 rfl rfl ?_
      refine wq_iconst (pc := 26) dM_product_26 rfl ?_
      refine wq_iadd (pc := 27) dM_product_27 ?_
      refine wq_re (x := (wr (gI M 80 16 + 1))) (y := (gI M 80 16 + 1)) (Eq.trans (wr_eq (by omega) (by omega)) (by omega)) ?_
      refine wq_putI (pc := 28) (z := 16) dM_product_28 fW_M_195 sh_80 rfl rfl ?_
      refine wq_aload_n (pc := 31) dM_product_31 rfl rfl ?_
      refine wq_callV (d' := (d + 2)) (pc := 32) (as := []) (rest := []) (lo' := [iR 80, none, none, none]) dM_product_32 mO_M_part lV_M_220 sh_80 (by decide) cl_11 rfl rfl rfl rfl rfl (blt_d d) ?_
      exact H

set_option maxRecDepth 20000 in
theorem B_M_product_35 {d : Nat} {x1 : Int} {M : Mm} {Q : Mm → Option Mv → Prop} (H : ((¬ x1 = 42 → Wq 1 0 0 mM_put1 0 [iR 80, iI 20008] [] M (fun M' v => Wq (d + 3) 0 0 mM_product 54 [iR 80, iI x1] (v.toList ++ []) M' Q)) ∧ (x1 = 42 → Wq 1 0 0 mM_put1 0 [iR 80, iI 20007] [] M (fun M' v => Wq (d + 3) 0 0 mM_product 54 [iR 80, iI x1] (v.toList ++ []) M' Q)))) : Wq (d + 3) 0 0 mM_product 35 [iR 80, iI x1] [] M Q := by
  refine wq_aload_n (pc := 35) dM_product_35 rfl rfl ?_
  refine wq_iload_n (pc := 36) dM_product_36 rfl rfl ?_
  refine wq_bipush (pc := 37) dM_product_37 rfl ?_
  refine wq_icmp_ne (pc := 39) (tgt := 48) dM_product_39 (by decide) (fun c1 => ?_) (fun c1 => ?_)
  · have H := H.1 c1
    refine wq_sipush (pc := 48) dM_product_48 rfl ?_
    refine wq_callV (d' := 1) (pc := 51) (as := [vI 20008]) (rest := []) (lo' := [iR 80, iI 20008]) dM_product_51 mO_M_put1 lV_M_208 sh_80 (by decide) cl_11 rfl rfl rfl rfl rfl rfl ?_
    exact H
  · have H := H.2 c1
    refine wq_sipush (pc := 42) dM_product_42 rfl ?_
    refine wq_goto (pc := 45) (tgt := 51) dM_product_45 (by decide) ?_
    refine wq_callV (d' := 1) (pc := 51) (as := [vI 20007]) (rest := []) (lo' := [iR 80, iI 20007]) dM_product_51 mO_M_put1 lV_M_208 sh_80 (by decide) cl_11 rfl rfl rfl rfl rfl rfl ?_
    exact H

set_option maxRecDepth 20000 in
theorem B_M_product_54 {d : Nat} {x1 : Int} {M : Mm} {Q : Mm → Option Mv → Prop} (H : Wq 1 0 0 mM_here 0 [iR 80] [] M (fun M' v => Wq (d + 3) 0 0 mM_product 58 [iR 80, iI x1] (v.toList ++ []) M' Q)) : Wq (d + 3) 0 0 mM_product 54 [iR 80, iI x1] [] M Q := by
  refine wq_aload_n (pc := 54) dM_product_54 rfl rfl ?_
  refine wq_callV (d' := 1) (pc := 55) (as := []) (rest := []) (lo' := [iR 80]) dM_product_55 mO_M_here lV_M_205 sh_80 (by decide) cl_11 rfl rfl rfl rfl rfl rfl ?_
  exact H

set_option maxRecDepth 20000 in
theorem B_M_product_58 {d : Nat} {x1 y0 : Int} {M : Mm} {Q : Mm → Option Mv → Prop} (H : Wq (d + 3) 0 0 mM_product 9 [iR 80, iI y0] [] M Q) : Wq (d + 3) 0 0 mM_product 58 [iR 80, iI x1] [vI y0] M Q := by
  refine wq_istore_n (pc := 58) (lo' := [iR 80, iI y0]) dM_product_58 rfl rfl rfl ?_
  refine wq_goto (pc := 59) (tgt := 9) dM_product_59 (by decide) ?_
  exact H
set_option maxRecDepth 20000 in
theorem B_M_part_0 {d : Nat} {M : Mm} {Q : Mm → Option Mv → Prop} (H : Wq 1 0 0 mM_here 0 [iR 80] [] M (fun M' v => Wq (d + 3) 0 0 mM_part 4 [iR 80, none, none, none] (v.toList ++ []) M' Q)) : Wq (d + 3) 0 0 mM_part 0 [iR 80, none, none, none] [] M Q := by
  refine wq_aload_n (pc := 0) dM_part_0 rfl rfl ?_
  refine wq_callV (d' := 1) (pc := 1) (as := []) (rest := []) (lo' := [iR 80]) dM_part_1 mO_M_here lV_M_205 sh_80 (by decide) cl_11 rfl rfl rfl rfl rfl rfl ?_
  exact H

set_option maxRecDepth 20000 in
theorem B_M_part_4 {d : Nat} {y0 : Int} {M : Mm} {Q : Mm → Option Mv → Prop} (H : ((¬ y0 = 33 → ((¬ y0 = 40 → ((48 ≤ y0 ∧ y0 ≤ 57 → Wq (d + 3) 0 0 mM_part 132 [iR 80, iI y0, iI 0, iI 0] [] M Q) ∧ (¬ (48 ≤ y0 ∧ y0 ≤ 57) → Wq 1 0 0 mM_nameOf 0 [iI y0] [] M (fun M' v => Wq (d + 3) 0 0 mM_part 193 [iR 80, iI y0, none, none] (v.toList ++ []) M' Q)))) ∧ (y0 = 40 → Wq 1 0 0 mM_opens 0 [iR 80] [] M (fun M' v => Wq (d + 3) 0 0 mM_part 50 [iR 80, iI y0, none, none] (v.toList ++ []) M' Q)))) ∧ (y0 = 33 → Wq 1 0 0 mM_opens 0 [iR 80] [] M (fun M' v => Wq (d + 3) 0 0 mM_part 15 [iR 80, iI y0, none, none] (v.toList ++ []) M' Q)))) : Wq (d + 3) 0 0 mM_part 4 [iR 80, none, none, none] [vI y0] M Q := by
  refine wq_istore_n (pc := 4) (lo' := [iR 80, iI y0, none, none]) dM_part_4 rfl rfl rfl ?_
  refine wq_iload_n (pc := 5) dM_part_5 rfl rfl ?_
  refine wq_bipush (pc := 6) dM_part_6 rfl ?_
  refine wq_icmp_ne (pc := 8) (tgt := 40) dM_part_8 (by decide) (fun c1 => ?_) (fun c1 => ?_)
  · have H := H.1 c1
    refine wq_iload_n (pc := 40) dM_part_40 rfl rfl ?_
    refine wq_bipush (pc := 41) dM_part_41 rfl ?_
    refine wq_icmp_ne (pc := 43) (tgt := 114) dM_part_43 (by decide) (fun c2 => ?_) (fun c2 => ?_)
    · have H := H.1 c2
      refine wq_iload_n (pc := 114) dM_part_114 rfl rfl ?_
      refine wq_i2l (pc := 115) dM_part_115 ?_
      refine wq_ldc2 (pc := 116) (z := 48) dM_part_116 kO_M_233 (by decide) ?_
      refine wq_ldc2 (pc := 119) (z := 57) dM_part_119 kO_M_235 (by decide) ?_
      refine wq_callS (d' := 1) (pc := 122) (as := [vL y0, vL 48, vL 57]) (rest := []) (lo' := [iL y0, none, iL 48, none, iL 57, none]) dM_part_122 mO_M_within lS_M_68 rfl rfl rfl rfl rfl rfl ?_
      refine sp_M_within (fun c3 => ?_) (fun c3 => ?_)
      · have H := H.1 c3
        show Wq (d + 3) 0 0 mM_part 125 [iR 80, iI y0, none, none] [vI 1] M _
        refine wq_if_eq (pc := 125) (tgt := 189) dM_part_125 (by decide) (fun q => absurd q (by decide)) (fun _ => ?_)
        refine wq_iconst (pc := 128) dM_part_128 rfl ?_
        refine wq_istore_n (pc := 129) (lo' := [iR 80, iI y0, iI 0, none]) dM_part_129 rfl rfl rfl ?_
        refine wq_iconst (pc := 130) dM_part_130 rfl ?_
        refine wq_istore_n (pc := 131) (lo' := [iR 80, iI y0, iI 0, iI 0]) dM_part_131 rfl rfl rfl ?_
        exact H
      · have H := H.2 c3
        show Wq (d + 3) 0 0 mM_part 125 [iR 80, iI y0, none, none] [vI 0] M _
        refine wq_if_eq (pc := 125) (tgt := 189) dM_part_125 (by decide) (fun _ => ?_) (fun q => absurd (by decide) q)
        refine wq_iload_n (pc := 189) dM_part_189 rfl rfl ?_
        refine wq_callS (d' := 1) (pc := 190) (as := [vI y0]) (rest := []) (lo' := [iI y0]) dM_part_190 mO_M_nameOf lS_M_237 rfl rfl rfl rfl rfl rfl ?_
        exact H
    · have H := H.2 c2
      refine wq_aload_n (pc := 46) dM_part_46 rfl rfl ?_
      refine wq_callV (d' := 1) (pc := 47) (as := []) (rest := []) (lo' := [iR 80]) dM_part_47 mO_M_opens lV_M_226 sh_80 (by decide) cl_11 rfl rfl rfl rfl rfl rfl ?_
      exact H
  · have H := H.2 c1
    refine wq_aload_n (pc := 11) dM_part_11 rfl rfl ?_
    refine wq_callV (d' := 1) (pc := 12) (as := []) (rest := []) (lo' := [iR 80]) dM_part_12 mO_M_opens lV_M_226 sh_80 (by decide) cl_11 rfl rfl rfl rfl rfl rfl ?_
    exact H

set_option maxRecDepth 20000 in
theorem B_M_part_15 {d : Nat} {x1 y0 : Int} {M : Mm} {Q : Mm → Option Mv → Prop} (H : ((y0 = 0 → Q M none) ∧ (¬ y0 = 0 → Wq (d + 2) 0 0 mM_part 0 [iR 80, none, none, none] [] M (fun M' v => Wq (d + 3) 0 0 mM_part 22 [iR 80, iI x1, none, none] (v.toList ++ []) M' Q)))) : Wq (d + 3) 0 0 mM_part 15 [iR 80, iI x1, none, none] [vI y0] M Q := by
  refine wq_if_eq (pc := 15) (tgt := 39) dM_part_15 (by decide) (fun c1 => ?_) (fun c1 => ?_)
  · have H := H.1 c1
    refine wq_return (pc := 39) dM_part_39 trivial ?_
    exact H
  · have H := H.2 c1
    refine wq_aload_n (pc := 18) dM_part_18 rfl rfl ?_
    refine wq_callV (d' := (d + 2)) (pc := 19) (as := []) (rest := []) (lo' := [iR 80, none, none, none]) dM_part_19 mO_M_part lV_M_220 sh_80 (by decide) cl_11 rfl rfl rfl rfl rfl (blt_d d) ?_
    exact H

set_option maxRecDepth 20000 in
theorem B_M_part_22 {d : Nat} {x1 : Int} {M : Mm} {Q : Mm → Option Mv → Prop} (H : ((-2147483648 ≤ gI M 80 17 - 1 ∧ gI M 80 17 - 1 < 2147483648) ∧ Wq 1 0 0 mM_put1 0 [iR 80, iI 20009] [] (sI M 80 17 (gI M 80 17 - 1)) (fun M' v => Wq (d + 3) 0 0 mM_part 39 [iR 80, iI x1, none, none] (v.toList ++ []) M' Q))) : Wq (d + 3) 0 0 mM_part 22 [iR 80, iI x1, none, none] [] M Q := by
  obtain ⟨s1, H⟩ := H
  refine wq_aload_n (pc := 22) dM_part_22 rfl rfl ?_
  refine wq_dup (pc := 23) dM_part_23 rfl ?_
  refine wq_getI (pc := 24) (z := 17) dM_part_24 fO_M_223 sh_80 rfl rfl ?_
  refine wq_iconst (pc := 27) dM_part_27 rfl ?_
  refine wq_isub (pc := 28) dM_part_28 ?_
  refine wq_re (x := (wr (gI M 80 17 - 1))) (y := (gI M 80 17 - 1)) (Eq.trans (wr_eq (by omega) (by omega)) (by omega)) ?_
  refine wq_putI (pc := 29) (z := 17) dM_part_29 fW_M_223 sh_80 rfl rfl ?_
  refine wq_aload_n (pc := 32) dM_part_32 rfl rfl ?_
  refine wq_sipush (pc := 33) dM_part_33 rfl ?_
  refine wq_callV (d' := 1) (pc := 36) (as := [vI 20009]) (rest := []) (lo' := [iR 80, iI 20009]) dM_part_36 mO_M_put1 lV_M_208 sh_80 (by decide) cl_11 rfl rfl rfl rfl rfl rfl ?_
  exact H

set_option maxRecDepth 20000 in
theorem B_M_part_39 {d : Nat} {x1 : Int} {M : Mm} {Q : Mm → Option Mv → Prop} (H : Q M none) : Wq (d + 3) 0 0 mM_part 39 [iR 80, iI x1, none, none] [] M Q := by
  refine wq_return (pc := 39) dM_part_39 trivial ?_
  exact H

set_option maxRecDepth 20000 in
theorem B_M_part_50 {d : Nat} {x1 y0 : Int} {M : Mm} {Q : Mm → Option Mv → Prop} (H : ((y0 = 0 → Q M none) ∧ (¬ y0 = 0 → Wq (d + 2) 0 0 mM_either 0 [iR 80] [] M (fun M' v => Wq (d + 3) 0 0 mM_part 57 [iR 80, iI x1, none, none] (v.toList ++ []) M' Q)))) : Wq (d + 3) 0 0 mM_part 50 [iR 80, iI x1, none, none] [vI y0] M Q := by
  refine wq_if_eq (pc := 50) (tgt := 113) dM_part_50 (by decide) (fun c1 => ?_) (fun c1 => ?_)
  · have H := H.1 c1
    refine wq_return (pc := 113) dM_part_113 trivial ?_
    exact H
  · have H := H.2 c1
    refine wq_aload_n (pc := 53) dM_part_53 rfl rfl ?_
    refine wq_callV (d' := (d + 2)) (pc := 54) (as := []) (rest := []) (lo' := [iR 80]) dM_part_54 mO_M_either lV_M_230 sh_80 (by decide) cl_11 rfl rfl rfl rfl rfl (blt_d d) ?_
    exact H

set_option maxRecDepth 20000 in
theorem B_M_part_57 {d : Nat} {x1 : Int} {M : Mm} {Q : Mm → Option Mv → Prop} (H : ((-2147483648 ≤ gI M 80 17 - 1 ∧ gI M 80 17 - 1 < 2147483648) ∧ ((¬ gI M 80 18 = 0 → ((-2147483648 ≤ gI M 80 16 ∧ gI M 80 16 < 2147483648) ∧ Q (sI (sI (sI M 80 17 (gI M 80 17 - 1)) 80 18 1) 80 16 (gI M 80 16)) none)) ∧ (gI M 80 18 = 0 → Wq 1 0 0 mM_here 0 [iR 80] [] (sI M 80 17 (gI M 80 17 - 1)) (fun M' v => Wq (d + 3) 0 0 mM_part 79 [iR 80, iI x1, none, none] (v.toList ++ [vR 80]) M' Q))))) : Wq (d + 3) 0 0 mM_part 57 [iR 80, iI x1, none, none] [] M Q := by
  obtain ⟨s1, H⟩ := H
  refine wq_aload_n (pc := 57) dM_part_57 rfl rfl ?_
  refine wq_dup (pc := 58) dM_part_58 rfl ?_
  refine wq_getI (pc := 59) (z := 17) dM_part_59 fO_M_223 sh_80 rfl rfl ?_
  refine wq_iconst (pc := 62) dM_part_62 rfl ?_
  refine wq_isub (pc := 63) dM_part_63 ?_
  refine wq_re (x := (wr (gI M 80 17 - 1))) (y := (gI M 80 17 - 1)) (Eq.trans (wr_eq (by omega) (by omega)) (by omega)) ?_
  refine wq_putI (pc := 64) (z := 17) dM_part_64 fW_M_223 sh_80 rfl rfl ?_
  refine wq_aload_n (pc := 67) dM_part_67 rfl rfl ?_
  refine wq_aload_n (pc := 68) dM_part_68 rfl rfl ?_
  refine wq_getI (pc := 69) (z := 18) dM_part_69 fO_M_192 sh_80 rfl rfl ?_
  refine wq_re (x := (gI (sI M 80 17 (gI M 80 17 - 1)) 80 18)) (y := (gI M 80 18)) rfl ?_
  refine wq_if_ne (pc := 72) (tgt := 84) dM_part_72 (by decide) (fun c2 => ?_) (fun c2 => ?_)
  · have H := H.1 c2
    obtain ⟨s3, H⟩ := H
    refine wq_iconst (pc := 84) dM_part_84 rfl ?_
    refine wq_goto (pc := 85) (tgt := 89) dM_part_85 (by decide) ?_
    refine wq_putZ (pc := 89) (z := 18) dM_part_89 fW_M_192 sh_80 rfl rfl (Or.inr rfl) ?_
    refine wq_aload_n (pc := 92) dM_part_92 rfl rfl ?_
    refine wq_dup (pc := 93) dM_part_93 rfl ?_
    refine wq_getI (pc := 94) (z := 16) dM_part_94 fO_M_195 sh_80 rfl rfl ?_
    refine wq_re (x := (gI (sI (sI M 80 17 (gI M 80 17 - 1)) 80 18 1) 80 16)) (y := (gI M 80 16)) rfl ?_
    refine wq_aload_n (pc := 97) dM_part_97 rfl rfl ?_
    refine wq_getI (pc := 98) (z := 18) dM_part_98 fO_M_192 sh_80 rfl rfl ?_
    refine wq_re (x := (gI (sI (sI M 80 17 (gI M 80 17 - 1)) 80 18 1) 80 18)) (y := 1) rfl ?_
    refine wq_if_eq (pc := 101) (tgt := 108) dM_part_101 (by decide) (fun q => absurd q (by decide)) (fun _ => ?_)
    refine wq_iconst (pc := 104) dM_part_104 rfl ?_
    refine wq_goto (pc := 105) (tgt := 109) dM_part_105 (by decide) ?_
    refine wq_iadd (pc := 109) dM_part_109 ?_
    refine wq_re (x := (wr (gI M 80 16 + 0))) (y := (gI M 80 16)) (Eq.trans (wr_eq (by omega) (by omega)) (by omega)) ?_
    refine wq_putI (pc := 110) (z := 16) dM_part_110 fW_M_195 sh_80 rfl rfl ?_
    refine wq_return (pc := 113) dM_part_113 trivial ?_
    exact H
  · have H := H.2 c2
    refine wq_aload_n (pc := 75) dM_part_75 rfl rfl ?_
    refine wq_callV (d' := 1) (pc := 76) (as := []) (rest := [vR 80]) (lo' := [iR 80]) dM_part_76 mO_M_here lV_M_205 sh_80 (by decide) cl_11 rfl rfl rfl rfl rfl rfl ?_
    exact H

set_option maxRecDepth 20000 in
theorem B_M_part_79 {d : Nat} {x1 y0 : Int} {M : Mm} {Q : Mm → Option Mv → Prop} (H : ((y0 = 41 → ((-2147483648 ≤ gI M 80 16 + 1 ∧ gI M 80 16 + 1 < 2147483648) ∧ Q (sI (sI M 80 18 0) 80 16 (gI M 80 16 + 1)) none)) ∧ (¬ y0 = 41 → ((-2147483648 ≤ gI M 80 16 ∧ gI M 80 16 < 2147483648) ∧ Q (sI (sI M 80 18 1) 80 16 (gI M 80 16)) none)))) : Wq (d + 3) 0 0 mM_part 79 [iR 80, iI x1, none, none] [vI y0, vR 80] M Q := by
  refine wq_bipush (pc := 79) dM_part_79 rfl ?_
  refine wq_icmp_eq (pc := 81) (tgt := 88) dM_part_81 (by decide) (fun c1 => ?_) (fun c1 => ?_)
  · have H := H.1 c1
    obtain ⟨s2, H⟩ := H
    refine wq_iconst (pc := 88) dM_part_88 rfl ?_
    refine wq_putZ (pc := 89) (z := 18) dM_part_89 fW_M_192 sh_80 rfl rfl (Or.inl rfl) ?_
    refine wq_aload_n (pc := 92) dM_part_92 rfl rfl ?_
    refine wq_dup (pc := 93) dM_part_93 rfl ?_
    refine wq_getI (pc := 94) (z := 16) dM_part_94 fO_M_195 sh_80 rfl rfl ?_
    refine wq_re (x := (gI (sI M 80 18 0) 80 16)) (y := (gI M 80 16)) rfl ?_
    refine wq_aload_n (pc := 97) dM_part_97 rfl rfl ?_
    refine wq_getI (pc := 98) (z := 18) dM_part_98 fO_M_192 sh_80 rfl rfl ?_
    refine wq_re (x := (gI (sI M 80 18 0) 80 18)) (y := 0) rfl ?_
    refine wq_if_eq (pc := 101) (tgt := 108) dM_part_101 (by decide) (fun _ => ?_) (fun q => absurd (by decide) q)
    refine wq_iconst (pc := 108) dM_part_108 rfl ?_
    refine wq_iadd (pc := 109) dM_part_109 ?_
    refine wq_re (x := (wr (gI M 80 16 + 1))) (y := (gI M 80 16 + 1)) (Eq.trans (wr_eq (by omega) (by omega)) (by omega)) ?_
    refine wq_putI (pc := 110) (z := 16) dM_part_110 fW_M_195 sh_80 rfl rfl ?_
    refine wq_return (pc := 113) dM_part_113 trivial ?_
    exact H
  · have H := H.2 c1
    obtain ⟨s3, H⟩ := H
    refine wq_iconst (pc := 84) dM_part_84 rfl ?_
    refine wq_goto (pc := 85) (tgt := 89) dM_part_85 (by decide) ?_
    refine wq_putZ (pc := 89) (z := 18) dM_part_89 fW_M_192 sh_80 rfl rfl (Or.inr rfl) ?_
    refine wq_aload_n (pc := 92) dM_part_92 rfl rfl ?_
    refine wq_dup (pc := 93) dM_part_93 rfl ?_
    refine wq_getI (pc := 94) (z := 16) dM_part_94 fO_M_195 sh_80 rfl rfl ?_
    refine wq_re (x := (gI (sI M 80 18 1) 80 16)) (y := (gI M 80 16)) rfl ?_
    refine wq_aload_n (pc := 97) dM_part_97 rfl rfl ?_
    refine wq_getI (pc := 98) (z := 18) dM_part_98 fO_M_192 sh_80 rfl rfl ?_
    refine wq_re (x := (gI (sI M 80 18 1) 80 18)) (y := 1) rfl ?_
    refine wq_if_eq (pc := 101) (tgt := 108) dM_part_101 (by decide) (fun q => absurd q (by decide)) (fun _ => ?_)
    refine wq_iconst (pc := 104) dM_part_104 rfl ?_
    refine wq_goto (pc := 105) (tgt := 109) dM_part_105 (by decide) ?_
    refine wq_iadd (pc := 109) dM_part_109 ?_
    refine wq_re (x := (wr (gI M 80 16 + 0))) (y := (gI M 80 16)) (Eq.trans (wr_eq (by omega) (by omega)) (by omega)) ?_
    refine wq_putI (pc := 110) (z := 16) dM_part_110 fW_M_195 sh_80 rfl rfl ?_
    refine wq_return (pc := 113) dM_part_113 trivial ?_
    exact H

set_option maxRecDepth 20000 in
theorem B_M_part_132 {d : Nat} {x1 x2 x3 : Int} {M : Mm} {Q : Mm → Option Mv → Prop} (H : ((4 ≤ x3 → Wq 1 0 0 mM_put1 0 [iR 80, iI x2] [] M (fun M' v => Wq (d + 3) 0 0 mM_part 188 [iR 80, iI x1, iI x2, iI x3] (v.toList ++ []) M' Q)) ∧ (¬ 4 ≤ x3 → Wq 1 0 0 mM_here 0 [iR 80] [] M (fun M' v => Wq (d + 3) 0 0 mM_part 141 [iR 80, iI x1, iI x2, iI x3] (v.toList ++ []) M' Q)))) : Wq (d + 3) 0 0 mM_part 132 [iR 80, iI x1, iI x2, iI x3] [] M Q := by
  refine wq_iload_n (pc := 132) dM_part_132 rfl rfl ?_
  refine wq_iconst (pc := 133) dM_part_133 rfl ?_
  refine wq_icmp_ge (pc := 134) (tgt := 183) dM_part_134 (by decide) (fun c1 => ?_) (fun c1 => ?_)
  · have H := H.1 c1
    refine wq_aload_n (pc := 183) dM_part_183 rfl rfl ?_
    refine wq_iload_n (pc := 184) dM_part_184 rfl rfl ?_
    refine wq_callV (d' := 1) (pc := 185) (as := [vI x2]) (rest := []) (lo' := [iR 80, iI x2]) dM_part_185 mO_M_put1 lV_M_208 sh_80 (by decide) cl_11 rfl rfl rfl rfl rfl rfl ?_
    exact H
  · have H := H.2 c1
    refine wq_aload_n (pc := 137) dM_part_137 rfl rfl ?_
    refine wq_callV (d' := 1) (pc := 138) (as := []) (rest := []) (lo' := [iR 80]) dM_part_138 mO_M_here lV_M_205 sh_80 (by decide) cl_11 rfl rfl rfl rfl rfl rfl ?_
    exact H

set_option maxRecDepth 20000 in
theorem B_M_part_141 {d : Nat} {x1 x2 x3 y0 : Int} {M : Mm} {Q : Mm → Option Mv → Prop} (H : ((48 ≤ y0 ∧ y0 ≤ 57 → Wq 1 0 0 mM_here 0 [iR 80] [] M (fun M' v => Wq (d + 3) 0 0 mM_part 162 [iR 80, iI x1, iI x2, iI x3] (v.toList ++ [vI (wr (10 * x2))]) M' Q)) ∧ (¬ (48 ≤ y0 ∧ y0 ≤ 57) → Wq 1 0 0 mM_put1 0 [iR 80, iI x2] [] M (fun M' v => Wq (d + 3) 0 0 mM_part 188 [iR 80, iI x1, iI x2, iI x3] (v.toList ++ []) M' Q)))) : Wq (d + 3) 0 0 mM_part 141 [iR 80, iI x1, iI x2, iI x3] [vI y0] M Q := by
  refine wq_i2l (pc := 141) dM_part_141 ?_
  refine wq_ldc2 (pc := 142) (z := 48) dM_part_142 kO_M_233 (by decide) ?_
  refine wq_ldc2 (pc := 145) (z := 57) dM_part_145 kO_M_235 (by decide) ?_
  refine wq_callS (d' := 1) (pc := 148) (as := [vL y0, vL 48, vL 57]) (rest := []) (lo' := [iL y0, none, iL 48, none, iL 57, none]) dM_part_148 mO_M_within lS_M_68 rfl rfl rfl rfl rfl rfl ?_
  refine sp_M_within (fun c1 => ?_) (fun c1 => ?_)
  · have H := H.1 c1
    show Wq (d + 3) 0 0 mM_part 151 [iR 80, iI x1, iI x2, iI x3] [vI 1] M _
    refine wq_if_eq (pc := 151) (tgt := 183) dM_part_151 (by decide) (fun q => absurd q (by decide)) (fun _ => ?_)
    refine wq_bipush (pc := 154) dM_part_154 rfl ?_
    refine wq_iload_n (pc := 156) dM_part_156 rfl rfl ?_
    refine wq_imul (pc := 157) dM_part_157 ?_
    refine wq_aload_n (pc := 158) dM_part_158 rfl rfl ?_
    refine wq_callV (d' := 1) (pc := 159) (as := []) (rest := [vI (wr (10 * x2))]) (lo' := [iR 80]) dM_part_159 mO_M_here lV_M_205 sh_80 (by decide) cl_11 rfl rfl rfl rfl rfl rfl ?_
    exact H
  · have H := H.2 c1
    show Wq (d + 3) 0 0 mM_part 151 [iR 80, iI x1, iI x2, iI x3] [vI 0] M _
    refine wq_if_eq (pc := 151) (tgt := 183) dM_part_151 (by decide) (fun _ => ?_) (fun q => absurd (by decide) q)
    refine wq_aload_n (pc := 183) dM_part_183 rfl rfl ?_
    refine wq_iload_n (pc := 184) dM_part_184 rfl rfl ?_
    refine wq_callV (d' := 1) (pc := 185) (as := [vI x2]) (rest := []) (lo' := [iR 80, iI x2]) dM_part_185 mO_M_put1 lV_M_208 sh_80 (by decide) cl_11 rfl rfl rfl rfl rfl rfl ?_
    exact H

set_option maxRecDepth 20000 in
theorem B_M_part_162 {d : Nat} {x1 x2 x3 y0 y1 : Int} {M : Mm} {Q : Mm → Option Mv → Prop} (H : (((-2147483648 ≤ y1 + y0 - 48 ∧ y1 + y0 - 48 < 2147483648) ∧ (-2147483648 ≤ gI M 80 16 + 1 ∧ gI M 80 16 + 1 < 2147483648) ∧ (-2147483648 ≤ x3 + 1 ∧ x3 + 1 < 2147483648)) ∧ Wq (d + 3) 0 0 mM_part 132 [iR 80, iI x1, iI (y1 + y0 - 48), iI (x3 + 1)] [] (sI M 80 16 (gI M 80 16 + 1)) Q)) : Wq (d + 3) 0 0 mM_part 162 [iR 80, iI x1, iI x2, iI x3] [vI y0, vI y1] M Q := by
  obtain ⟨⟨s1, s2, s3⟩, H⟩ := H
  refine wq_iadd (pc := 162) dM_part_162 ?_
  refine wq_bipush (pc := 163) dM_part_163 rfl ?_
  refine wq_isub (pc := 165) dM_part_165 ?_
  refine wq_re (x := (wr (wr (y1 + y0) - 48))) (y := (y1 + y0 - 48)) (by (try simp only [wr_al, wr_ar, wr_sl, wr_sr, wr_ml, wr_mr, wr_nn, wr_ww]); exact Eq.trans (wr_eq (by omega) (by omega)) (by omega)) ?_
  refine wq_istore_n (pc := 166) (lo' := [iR 80, iI x1, iI (y1 + y0 - 48), iI x3]) dM_part_166 rfl rfl rfl ?_
  refine wq_aload_n (pc := 167) dM_part_167 rfl rfl ?_
  refine wq_dup (pc := 168) dM_part_168 rfl ?_
  refine wq_getI (pc := 169) (z := 16) dM_part_169 fO_M_195 sh_80 rfl rfl ?_
  refine wq_iconst (pc := 172) dM_part_172 rfl ?_
  refine wq_iadd (pc := 173) dM_part_173 ?_
  refine wq_re (x := (wr (gI M 80 16 + 1))) (y := (gI M 80 16 + 1)) (Eq.trans (wr_eq (by omega) (by omega)) (by omega)) ?_
  refine wq_putI (pc := 174) (z := 16) dM_part_174 fW_M_195 sh_80 rfl rfl ?_
  refine wq_iinc (pc := 177) (lo' := [iR 80, iI x1, iI (y1 + y0 - 48), iI (x3 + 1)]) dM_part_177 rfl rfl (by rw [show wr (x3 + 1) = x3 + 1 from (Eq.trans (wr_eq (by omega) (by omega)) (by omega))]; rfl) ?_
  refine wq_goto (pc := 180) (tgt := 132) dM_part_180 (by decide) ?_
  exact H

set_option maxRecDepth 20000 in
theorem B_M_part_188 {d : Nat} {x1 x2 x3 : Int} {M : Mm} {Q : Mm → Option Mv → Prop} (H : Q M none) : Wq (d + 3) 0 0 mM_part 188 [iR 80, iI x1, iI x2, iI x3] [] M Q := by
  refine wq_return (pc := 188) dM_part_188 trivial ?_
  exact H

set_option maxRecDepth 20000 in
theorem B_M_part_193 {d : Nat} {x1 y0 : Int} {M : Mm} {Q : Mm → Option Mv → Prop} (H : ((¬ gI M 80 18 = 0 → Q (sI M 80 18 1) none) ∧ (gI M 80 18 = 0 → ((0 ≤ y0 → ((-2147483648 ≤ 10000 + y0 ∧ 10000 + y0 < 2147483648) ∧ Wq 1 0 0 mM_put1 0 [iR 80, iI (10000 + y0)] [] (sI M 80 18 0) (fun M' v => Wq (d + 3) 0 0 mM_part 230 [iR 80, iI x1, iI y0, none] (v.toList ++ []) M' Q))) ∧ (¬ 0 ≤ y0 → Q (sI M 80 18 1) none))))) : Wq (d + 3) 0 0 mM_part 193 [iR 80, iI x1, none, none] [vI y0] M Q := by
  refine wq_istore_n (pc := 193) (lo' := [iR 80, iI x1, iI y0, none]) dM_part_193 rfl rfl rfl ?_
  refine wq_aload_n (pc := 194) dM_part_194 rfl rfl ?_
  refine wq_aload_n (pc := 195) dM_part_195 rfl rfl ?_
  refine wq_getI (pc := 196) (z := 18) dM_part_196 fO_M_192 sh_80 rfl rfl ?_
  refine wq_if_ne (pc := 199) (tgt := 206) dM_part_199 (by decide) (fun c1 => ?_) (fun c1 => ?_)
  · have H := H.1 c1
    refine wq_iconst (pc := 206) dM_part_206 rfl ?_
    refine wq_goto (pc := 207) (tgt := 211) dM_part_207 (by decide) ?_
    refine wq_putZ (pc := 211) (z := 18) dM_part_211 fW_M_192 sh_80 rfl rfl (Or.inr rfl) ?_
    refine wq_aload_n (pc := 214) dM_part_214 rfl rfl ?_
    refine wq_getI (pc := 215) (z := 18) dM_part_215 fO_M_192 sh_80 rfl rfl ?_
    refine wq_re (x := (gI (sI M 80 18 1) 80 18)) (y := 1) rfl ?_
    refine wq_if_ne (pc := 218) (tgt := 240) dM_part_218 (by decide) (fun _ => ?_) (fun q => absurd q (by decide))
    refine wq_return (pc := 240) dM_part_240 trivial ?_
    exact H
  · have H := H.2 c1
    refine wq_iload_n (pc := 202) dM_part_202 rfl rfl ?_
    refine wq_if_ge (pc := 203) (tgt := 210) dM_part_203 (by decide) (fun c2 => ?_) (fun c2 => ?_)
    · have H := H.1 c2
      obtain ⟨s3, H⟩ := H
      refine wq_iconst (pc := 210) dM_part_210 rfl ?_
      refine wq_putZ (pc := 211) (z := 18) dM_part_211 fW_M_192 sh_80 rfl rfl (Or.inl rfl) ?_
      refine wq_aload_n (pc := 214) dM_part_214 rfl rfl ?_
      refine wq_getI (pc := 215) (z := 18) dM_part_215 fO_M_192 sh_80 rfl rfl ?_
      refine wq_re (x := (gI (sI M 80 18 0) 80 18)) (y := 0) rfl ?_
      refine wq_if_ne (pc := 218) (tgt := 240) dM_part_218 (by decide) (fun q => absurd q (by decide)) (fun _ => ?_)
      refine wq_aload_n (pc := 221) dM_part_221 rfl rfl ?_
      refine wq_sipush (pc := 222) dM_part_222 rfl ?_
      refine wq_iload_n (pc := 225) dM_part_225 rfl rfl ?_
      refine wq_iadd (pc := 226) dM_part_226 ?_
      refine wq_re (x := (wr (10000 + y0))) (y := (10000 + y0)) (Eq.trans (wr_eq (by omega) (by omega)) (by omega)) ?_
      refine wq_callV (d' := 1) (pc := 227) (as := [vI (10000 + y0)]) (rest := []) (lo' := [iR 80, iI (10000 + y0)]) dM_part_227 mO_M_put1 lV_M_208 sh_80 (by decide) cl_11 rfl rfl rfl rfl rfl rfl ?_
      exact H
    · have H := H.2 c2
      refine wq_iconst (pc := 206) dM_part_206 rfl ?_
      refine wq_goto (pc := 207) (tgt := 211) dM_part_207 (by decide) ?_
      refine wq_putZ (pc := 211) (z := 18) dM_part_211 fW_M_192 sh_80 rfl rfl (Or.inr rfl) ?_
      refine wq_aload_n (pc := 214) dM_part_214 rfl rfl ?_
      refine wq_getI (pc := 215) (z := 18) dM_part_215 fO_M_192 sh_80 rfl rfl ?_
      refine wq_re (x := (gI (sI M 80 18 1) 80 18)) (y := 1) rfl ?_
      refine wq_if_ne (pc := 218) (tgt := 240) dM_part_218 (by decide) (fun _ => ?_) (fun q => absurd q (by decide))
      refine wq_return (pc := 240) dM_part_240 trivial ?_
      exact H

set_option maxRecDepth 20000 in
theorem B_M_part_230 {d : Nat} {x1 x2 : Int} {M : Mm} {Q : Mm → Option Mv → Prop} (H : ((-2147483648 ≤ gI M 80 16 + 1 ∧ gI M 80 16 + 1 < 2147483648) ∧ Q (sI M 80 16 (gI M 80 16 + 1)) none)) : Wq (d + 3) 0 0 mM_part 230 [iR 80, iI x1, iI x2, none] [] M Q := by
  obtain ⟨s1, H⟩ := H
  refine wq_aload_n (pc := 230) dM_part_230 rfl rfl ?_
  refine wq_dup (pc := 231) dM_part_231 rfl ?_
  refine wq_getI (pc := 232) (z := 16) dM_part_232 fO_M_195 sh_80 rfl rfl ?_
  refine wq_iconst (pc := 235) dM_part_235 rfl ?_
  refine wq_iadd (pc := 236) dM_part_236 ?_
  refine wq_re (x := (wr (gI M 80 16 + 1))) (y := (gI M 80 16 + 1)) (Eq.trans (wr_eq (by omega) (by omega)) (by omega)) ?_
  refine wq_putI (pc := 237) (z := 16) dM_part_237 fW_M_195 sh_80 rfl rfl ?_
  refine wq_return (pc := 240) dM_part_240 trivial ?_
  exact H
