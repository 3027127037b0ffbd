set_option maxRecDepth 20000 in
theorem B_M_clause_0 {x1 x2 : Int} {M : Mm} {Q : Mm → Option Mv → Prop} (hS : RefOK M) (H : ((0 ≤ x1 ∧ x1 ≤ 1 → ((0 ≤ x2 ∧ x2 ≤ 900 → ((¬ gI M 81 5 = 10 → Wq 50 0 0 mM_either 0 [iR 80] [] (sI (sI (sI (sI M 80 16 0) 80 17 0) 80 18 0) 80 20 0) (fun M' v => Wq 51 0 0 mM_clause 73 [iR 80, iI x1, iI x2, iI (gI M 81 5), none, none] (v.toList ++ []) M' Q)) ∧ (gI M 81 5 = 10 → Q (sI M 83 4 (wr (gI M 83 4 + 1))) (some (vI (-1000004)))))) ∧ (¬ (0 ≤ x2 ∧ x2 ≤ 900) → Q (sI M 83 1 (wr (gI M 83 1 + 1))) (some (vI (-1000001)))))) ∧ (¬ (0 ≤ x1 ∧ x1 ≤ 1) → Q (sI M 83 1 (wr (gI M 83 1 + 1))) (some (vI (-1000001)))))) : Wq 51 0 0 mM_clause 0 [iR 80, iI x1, iI x2, none, none, none] [] M Q := by
  refine wq_iload_n (pc := 0) dM_clause_0 rfl rfl ?_
  refine wq_i2l (pc := 1) dM_clause_1 ?_
  refine wq_lconst (pc := 2) (x := 0) dM_clause_2 rfl rfl ?_
  refine wq_lconst (pc := 3) (x := 1) dM_clause_3 rfl rfl ?_
  refine wq_callS (d' := 1) (pc := 4) (as := [vL x1, vL 0, vL 1]) (rest := []) (lo' := [iL x1, none, iL 0, none, iL 1, none]) dM_clause_4 mO_M_within lS_M_68 rfl rfl rfl rfl rfl rfl ?_
  refine sp_M_within (fun c1 => ?_) (fun c1 => ?_)
  · have H := H.1 c1
    show Wq 51 0 0 mM_clause 7 [iR 80, iI x1, iI x2, none, none, none] [vI 1] M _
    refine wq_if_eq (pc := 7) (tgt := 22) dM_clause_7 (by decide) (fun q => absurd q (by decide)) (fun _ => ?_)
    refine wq_iload_n (pc := 10) dM_clause_10 rfl rfl ?_
    refine wq_i2l (pc := 11) dM_clause_11 ?_
    refine wq_lconst (pc := 12) (x := 0) dM_clause_12 rfl rfl ?_
    refine wq_ldc2 (pc := 13) (z := 900) dM_clause_13 kO_M_119 (by decide) ?_
    refine wq_callS (d' := 1) (pc := 16) (as := [vL x2, vL 0, vL 900]) (rest := []) (lo' := [iL x2, none, iL 0, none, iL 900, none]) dM_clause_16 mO_M_within lS_M_68 rfl rfl rfl rfl rfl rfl ?_
    refine sp_M_within (fun c2 => ?_) (fun c2 => ?_)
    · have H := H.1 c2
      show Wq 51 0 0 mM_clause 19 [iR 80, iI x1, iI x2, none, none, none] [vI 1] M _
      refine wq_if_ne (pc := 19) (tgt := 29) dM_clause_19 (by decide) (fun _ => ?_) (fun q => absurd q (by decide))
      refine wq_aload_n (pc := 29) dM_clause_29 rfl rfl ?_
      refine wq_getR (pc := 30) (z := 0) (b := 81) dM_clause_30 fO_M_9 sh_80 rfl rfl (rf_80_0 hS) ?_
      refine wq_iconst (pc := 33) dM_clause_33 rfl ?_
      refine wq_iald (pc := 34) dM_clause_34 sh_81 (by decide) (by decide) ?_
      refine wq_istore_n (pc := 35) (lo' := [iR 80, iI x1, iI x2, iI (gI M 81 5), none, none]) dM_clause_35 rfl rfl rfl ?_
      refine wq_iload_n (pc := 36) dM_clause_36 rfl rfl ?_
      refine wq_bipush (pc := 37) dM_clause_37 rfl ?_
      refine wq_icmp_ne (pc := 39) (tgt := 49) dM_clause_39 (by decide) (fun c3 => ?_) (fun c3 => ?_)
      · have H := H.1 c3
        refine wq_aload_n (pc := 49) dM_clause_49 rfl rfl ?_
        refine wq_iconst (pc := 50) dM_clause_50 rfl ?_
        refine wq_putI (pc := 51) (z := 16) dM_clause_51 fW_M_195 sh_80 rfl rfl ?_
        refine wq_aload_n (pc := 54) dM_clause_54 rfl rfl ?_
        refine wq_iconst (pc := 55) dM_clause_55 rfl ?_
        refine wq_putI (pc := 56) (z := 17) dM_clause_56 fW_M_223 sh_80 rfl rfl ?_
        refine wq_aload_n (pc := 59) dM_clause_59 rfl rfl ?_
        refine wq_iconst (pc := 60) dM_clause_60 rfl ?_
        refine wq_putZ (pc := 61) (z := 18) dM_clause_61 fW_M_192 sh_80 rfl rfl (Or.inl rfl) ?_
        refine wq_aload_n (pc := 64) dM_clause_64 rfl rfl ?_
        refine wq_iconst (pc := 65) dM_clause_65 rfl ?_
        refine wq_putI (pc := 66) (z := 20) dM_clause_66 fW_M_199 sh_80 rfl rfl ?_
        refine wq_aload_n (pc := 69) dM_clause_69 rfl rfl ?_
        refine wq_callV (d' := 50) (pc := 70) (as := []) (rest := []) (lo' := [iR 80]) dM_clause_70 mO_M_either lV_M_230 sh_80 (by decide) cl_11 rfl rfl rfl rfl rfl rfl ?_
        exact H
      · have H := H.2 c3
        refine wq_aload_n (pc := 42) dM_clause_42 rfl rfl ?_
        refine wq_ldc (pc := 43) (z := (-1000004)) dM_clause_43 kO_M_83 (by decide) ?_
        refine wq_callV (d' := 1) (pc := 45) (as := [vI (-1000004)]) (rest := []) (lo' := [iR 80, iI ((-1000004))]) dM_clause_45 mO_M_finding lV_M_79 sh_80 (by decide) cl_11 rfl rfl rfl rfl rfl rfl ?_
        refine sp_M_finding (k := 4) (by decide) (by decide) (by decide) hS ?_
        show Wq 51 0 0 mM_clause 48 [iR 80, iI x1, iI x2, iI (gI M 81 5), none, none] [vI (-1000004)] (sI M 83 4 (wr (gI M 83 4 + 1))) _
        refine wq_ireturn (pc := 48) dM_clause_48 trivial ?_
        exact H
    · have H := H.2 c2
      show Wq 51 0 0 mM_clause 19 [iR 80, iI x1, iI x2, none, none, none] [vI 0] M _
      refine wq_if_ne (pc := 19) (tgt := 29) dM_clause_19 (by decide) (fun q => absurd q (by decide)) (fun _ => ?_)
      refine wq_aload_n (pc := 22) dM_clause_22 rfl rfl ?_
      refine wq_ldc (pc := 23) (z := (-1000001)) dM_clause_23 kO_M_78 (by decide) ?_
      refine wq_callV (d' := 1) (pc := 25) (as := [vI (-1000001)]) (rest := []) (lo' := [iR 80, iI ((-1000001))]) dM_clause_25 mO_M_finding lV_M_79 sh_80 (by decide) cl_11 rfl rfl rfl rfl rfl rfl ?_
      refine sp_M_finding (k := 1) (by decide) (by decide) (by decide) hS ?_
      show Wq 51 0 0 mM_clause 28 [iR 80, iI x1, iI x2, none, none, none] [vI (-1000001)] (sI M 83 1 (wr (gI M 83 1 + 1))) _
      refine wq_ireturn (pc := 28) dM_clause_28 trivial ?_
      exact H
  · have H := H.2 c1
    show Wq 51 0 0 mM_clause 7 [iR 80, iI x1, iI x2, none, none, none] [vI 0] M _
    refine wq_if_eq (pc := 7) (tgt := 22) dM_clause_7 (by decide) (fun _ => ?_) (fun q => absurd (by decide) q)
    refine wq_aload_n (pc := 22) dM_clause_22 rfl rfl ?_
    refine wq_ldc (pc := 23) (z := (-1000001)) dM_clause_23 kO_M_78 (by decide) ?_
    refine wq_callV (d' := 1) (pc := 25) (as := [vI (-1000001)]) (rest := []) (lo' := [iR 80, iI ((-1000001))]) dM_clause_25 mO_M_finding lV_M_79 sh_80 (by decide) cl_11 rfl rfl rfl rfl rfl rfl ?_
    refine sp_M_finding (k := 1) (by decide) (by decide) (by decide) hS ?_
    show Wq 51 0 0 mM_clause 28 [iR 80, iI x1, iI x2, none, none, none] [vI (-1000001)] (sI M 83 1 (wr (gI M 83 1 + 1))) _
    refine wq_ireturn (pc := 28) dM_clause_28 trivial ?_
    exact H

set_option maxRecDepth 20000 in
theorem B_M_clause_73 {x1 x2 x3 : Int} {M : Mm} {Q : Mm → Option Mv → Prop} (hS : RefOK M) (H : ((¬ gI M 80 18 = 0 → ((-2147483648 ≤ (-10) - gI M 80 16 ∧ (-10) - gI M 80 16 < 2147483648) ∧ Q (sI (sI M 80 18 1) 81 7 0) (some (vI ((-10) - gI M 80 16))))) ∧ (gI M 80 18 = 0 → ((gI M 81 7 ≤ gI M 80 16 → (((-2147483648 ≤ 288 + 73 * x3 ∧ 288 + 73 * x3 < 2147483648) ∧ (0 ≤ 288 + 73 * x3 ∧ 288 + 73 * x3 < 1993) ∧ (0 ≤ 289 + 73 * x3 ∧ 289 + 73 * x3 < 1993) ∧ (0 ≤ 290 + 73 * x3 ∧ 290 + 73 * x3 < 1993)) ∧ Wq 51 0 0 mM_clause 172 [iR 80, iI x1, iI x2, iI x3, iI (288 + 73 * x3), iI 0] [] (sI (sI (sI (sI (sI M 80 18 0) 81 7 0) 81 (288 + 73 * x3) x1) 81 (289 + 73 * x3) x2) 81 (290 + 73 * x3) (gI M 80 20)) Q)) ∧ (¬ gI M 81 7 ≤ gI M 80 16 → ((-2147483648 ≤ (-10) - gI M 80 16 ∧ (-10) - gI M 80 16 < 2147483648) ∧ Q (sI (sI M 80 18 1) 81 7 0) (some (vI ((-10) - gI M 80 16))))))))) : Wq 51 0 0 mM_clause 73 [iR 80, iI x1, iI x2, iI x3, none, none] [] M Q := by
  refine wq_aload_n (pc := 73) dM_clause_73 rfl rfl ?_
  refine wq_aload_n (pc := 74) dM_clause_74 rfl rfl ?_
  refine wq_getI (pc := 75) (z := 18) dM_clause_75 fO_M_192 sh_80 rfl rfl ?_
  refine wq_if_ne (pc := 78) (tgt := 95) dM_clause_78 (by decide) (fun c1 => ?_) (fun c1 => ?_)
  · have H := H.1 c1
    obtain ⟨s2, H⟩ := H
    refine wq_iconst (pc := 95) dM_clause_95 rfl ?_
    refine wq_goto (pc := 96) (tgt := 100) dM_clause_96 (by decide) ?_
    refine wq_putZ (pc := 100) (z := 18) dM_clause_100 fW_M_192 sh_80 rfl rfl (Or.inr rfl) ?_
    refine wq_aload_n (pc := 103) dM_clause_103 rfl rfl ?_
    refine wq_getR (pc := 104) (z := 0) (b := 81) dM_clause_104 fO_M_9 sh_80 rfl rfl (rf_80_0 hS) ?_
    refine wq_bipush (pc := 107) dM_clause_107 rfl ?_
    refine wq_iconst (pc := 109) dM_clause_109 rfl ?_
    refine wq_iast (pc := 110) dM_clause_110 sh_81 (by decide) (by decide) (by decide) ?_
    refine wq_aload_n (pc := 111) dM_clause_111 rfl rfl ?_
    refine wq_getI (pc := 112) (z := 18) dM_clause_112 fO_M_192 sh_80 rfl rfl ?_
    refine wq_re (x := (gI (sI (sI M 80 18 1) 81 7 0) 80 18)) (y := 1) rfl ?_
    refine wq_if_eq (pc := 115) (tgt := 126) dM_clause_115 (by decide) (fun q => absurd q (by decide)) (fun _ => ?_)
    refine wq_bipush (pc := 118) dM_clause_118 rfl ?_
    refine wq_aload_n (pc := 120) dM_clause_120 rfl rfl ?_
    refine wq_getI (pc := 121) (z := 16) dM_clause_121 fO_M_195 sh_80 rfl rfl ?_
    refine wq_re (x := (gI (sI (sI M 80 18 1) 81 7 0) 80 16)) (y := (gI M 80 16)) rfl ?_
    refine wq_isub (pc := 124) dM_clause_124 ?_
    refine wq_re (x := (wr ((-10) - gI M 80 16))) (y := ((-10) - gI M 80 16)) (Eq.trans (wr_eq (by omega) (by omega)) (by omega)) ?_
    refine wq_ireturn (pc := 125) dM_clause_125 trivial ?_
    exact H
  · have H := H.2 c1
    refine wq_aload_n (pc := 81) dM_clause_81 rfl rfl ?_
    refine wq_getI (pc := 82) (z := 16) dM_clause_82 fO_M_195 sh_80 rfl rfl ?_
    refine wq_aload_n (pc := 85) dM_clause_85 rfl rfl ?_
    refine wq_getR (pc := 86) (z := 0) (b := 81) dM_clause_86 fO_M_9 sh_80 rfl rfl (rf_80_0 hS) ?_
    refine wq_bipush (pc := 89) dM_clause_89 rfl ?_
    refine wq_iald (pc := 91) dM_clause_91 sh_81 (by decide) (by decide) ?_
    refine wq_icmp_ge (pc := 92) (tgt := 99) dM_clause_92 (by decide) (fun c3 => ?_) (fun c3 => ?_)
    · have H := H.1 c3
      obtain ⟨⟨s4, s5, s6, s7⟩, H⟩ := H
      refine wq_iconst (pc := 99) dM_clause_99 rfl ?_
      refine wq_putZ (pc := 100) (z := 18) dM_clause_100 fW_M_192 sh_80 rfl rfl (Or.inl rfl) ?_
      refine wq_aload_n (pc := 103) dM_clause_103 rfl rfl ?_
      refine wq_getR (pc := 104) (z := 0) (b := 81) dM_clause_104 fO_M_9 sh_80 rfl rfl (rf_80_0 hS) ?_
      refine wq_bipush (pc := 107) dM_clause_107 rfl ?_
      refine wq_iconst (pc := 109) dM_clause_109 rfl ?_
      refine wq_iast (pc := 110) dM_clause_110 sh_81 (by decide) (by decide) (by decide) ?_
      refine wq_aload_n (pc := 111) dM_clause_111 rfl rfl ?_
      refine wq_getI (pc := 112) (z := 18) dM_clause_112 fO_M_192 sh_80 rfl rfl ?_
      refine wq_re (x := (gI (sI (sI M 80 18 0) 81 7 0) 80 18)) (y := 0) rfl ?_
      refine wq_if_eq (pc := 115) (tgt := 126) dM_clause_115 (by decide) (fun _ => ?_) (fun q => absurd (by decide) q)
      refine wq_sipush (pc := 126) dM_clause_126 rfl ?_
      refine wq_bipush (pc := 129) dM_clause_129 rfl ?_
      refine wq_iload_n (pc := 131) dM_clause_131 rfl rfl ?_
      refine wq_imul (pc := 132) dM_clause_132 ?_
      refine wq_iadd (pc := 133) dM_clause_133 ?_
      refine wq_re (x := (wr (288 + wr (73 * x3)))) (y := (288 + 73 * x3)) (by (try simp only [wr_al, wr_ar, wr_sl, wr_sr, wr_ml, wr_mr, wr_nn, wr_ww]); exact Eq.trans (wr_eq (by omega) (by omega)) (by omega)) ?_
      refine wq_istore (pc := 134) (lo' := [iR 80, iI x1, iI x2, iI x3, iI (288 + 73 * x3), none]) dM_clause_134 rfl rfl ?_
      refine wq_aload_n (pc := 136) dM_clause_136 rfl rfl ?_
      refine wq_getR (pc := 137) (z := 0) (b := 81) dM_clause_137 fO_M_9 sh_80 rfl rfl (rf_80_0 hS) ?_
      refine wq_iload (pc := 140) dM_clause_140 rfl ?_
      refine wq_iconst (pc := 142) dM_clause_142 rfl ?_
      refine wq_iadd (pc := 143) dM_clause_143 ?_
      refine wq_iload_n (pc := 144) dM_clause_144 rfl rfl ?_
      refine wq_re2 (x := (wr (288 + 73 * x3 + 0))) (y := (288 + 73 * x3)) (Eq.trans (wr_eq (by omega) (by omega)) (by omega)) ?_
      refine wq_iast (pc := 145) dM_clause_145 sh_81 (by decide) s5.1 s5.2 ?_
      refine wq_aload_n (pc := 146) dM_clause_146 rfl rfl ?_
      refine wq_getR (pc := 147) (z := 0) (b := 81) dM_clause_147 fO_M_9 sh_80 rfl rfl (rf_80_0 hS) ?_
      refine wq_iload (pc := 150) dM_clause_150 rfl ?_
      refine wq_iconst (pc := 152) dM_clause_152 rfl ?_
      refine wq_iadd (pc := 153) dM_clause_153 ?_
      refine wq_iload_n (pc := 154) dM_clause_154 rfl rfl ?_
      refine wq_re2 (x := (wr (288 + 73 * x3 + 1))) (y := (289 + 73 * x3)) (Eq.trans (wr_eq (by omega) (by omega)) (by omega)) ?_
      refine wq_iast (pc := 155) dM_clause_155 sh_81 (by decide) s6.1 s6.2 ?_
      refine wq_aload_n (pc := 156) dM_clause_156 rfl rfl ?_
      refine wq_getR (pc := 157) (z := 0) (b := 81) dM_clause_157 fO_M_9 sh_80 rfl rfl (rf_80_0 hS) ?_
      refine wq_iload (pc := 160) dM_clause_160 rfl ?_
      refine wq_iconst (pc := 162) dM_clause_162 rfl ?_
      refine wq_iadd (pc := 163) dM_clause_163 ?_
      refine wq_aload_n (pc := 164) dM_clause_164 rfl rfl ?_
      refine wq_getI (pc := 165) (z := 20) dM_clause_165 fO_M_199 sh_80 rfl rfl ?_
      refine wq_re (x := (gI (sI (sI (sI (sI M 80 18 0) 81 7 0) 81 (288 + 73 * x3) x1) 81 (289 + 73 * x3) x2) 80 20)) (y := (gI M 80 20)) rfl ?_
      refine wq_re2 (x := (wr (288 + 73 * x3 + 2))) (y := (290 + 73 * x3)) (Eq.trans (wr_eq (by omega) (by omega)) (by omega)) ?_
      refine wq_iast (pc := 168) dM_clause_168 sh_81 (by decide) s7.1 s7.2 ?_
      refine wq_iconst (pc := 169) dM_clause_169 rfl ?_
      refine wq_istore (pc := 170) (lo' := [iR 80, iI x1, iI x2, iI x3, iI (288 + 73 * x3), iI 0]) dM_clause_170 rfl rfl ?_
      exact H
    · have H := H.2 c3
      obtain ⟨s8, H⟩ := H
      refine wq_iconst (pc := 95) dM_clause_95 rfl ?_
      refine wq_goto (pc := 96) (tgt := 100) dM_clause_96 (by decide) ?_
      refine wq_putZ (pc := 100) (z := 18) dM_clause_100 fW_M_192 sh_80 rfl rfl (Or.inr rfl) ?_
      refine wq_aload_n (pc := 103) dM_clause_103 rfl rfl ?_
      refine wq_getR (pc := 104) (z := 0) (b := 81) dM_clause_104 fO_M_9 sh_80 rfl rfl (rf_80_0 hS) ?_
      refine wq_bipush (pc := 107) dM_clause_107 rfl ?_
      refine wq_iconst (pc := 109) dM_clause_109 rfl ?_
      refine wq_iast (pc := 110) dM_clause_110 sh_81 (by decide) (by decide) (by decide) ?_
      refine wq_aload_n (pc := 111) dM_clause_111 rfl rfl ?_
      refine wq_getI (pc := 112) (z := 18) dM_clause_112 fO_M_192 sh_80 rfl rfl ?_
      refine wq_re (x := (gI (sI (sI M 80 18 1) 81 7 0) 80 18)) (y := 1) rfl ?_
      refine wq_if_eq (pc := 115) (tgt := 126) dM_clause_115 (by decide) (fun q => absurd q (by decide)) (fun _ => ?_)
      refine wq_bipush (pc := 118) dM_clause_118 rfl ?_
      refine wq_aload_n (pc := 120) dM_clause_120 rfl rfl ?_
      refine wq_getI (pc := 121) (z := 16) dM_clause_121 fO_M_195 sh_80 rfl rfl ?_
      refine wq_re (x := (gI (sI (sI M 80 18 1) 81 7 0) 80 16)) (y := (gI M 80 16)) rfl ?_
      refine wq_isub (pc := 124) dM_clause_124 ?_
      refine wq_re (x := (wr ((-10) - gI M 80 16))) (y := ((-10) - gI M 80 16)) (Eq.trans (wr_eq (by omega) (by omega)) (by omega)) ?_
      refine wq_ireturn (pc := 125) dM_clause_125 trivial ?_
      exact H

set_option maxRecDepth 20000 in
theorem B_M_clause_172 {x1 x2 x3 x4 x5 : Int} {M : Mm} {Q : Mm → Option Mv → Prop} (hS : RefOK M) (H : ((gI M 80 20 ≤ x5 → ((-2147483648 ≤ gI M 81 5 + 1 ∧ gI M 81 5 + 1 < 2147483648) ∧ Q (sI M 81 5 (gI M 81 5 + 1)) (some (vI x3)))) ∧ (¬ gI M 80 20 ≤ x5 → (((0 ≤ x5 ∧ x5 < 70) ∧ (0 ≤ x4 + 3 + x5 ∧ x4 + 3 + x5 < 1993) ∧ (-2147483648 ≤ x5 + 1 ∧ x5 + 1 < 2147483648)) ∧ Wq 51 0 0 mM_clause 172 [iR 80, iI x1, iI x2, iI x3, iI x4, iI (x5 + 1)] [] (sI M 81 (x4 + 3 + x5) (gI M 94 x5)) Q)))) : Wq 51 0 0 mM_clause 172 [iR 80, iI x1, iI x2, iI x3, iI x4, iI x5] [] M Q := by
  refine wq_iload (pc := 172) dM_clause_172 rfl ?_
  refine wq_aload_n (pc := 174) dM_clause_174 rfl rfl ?_
  refine wq_getI (pc := 175) (z := 20) dM_clause_175 fO_M_199 sh_80 rfl rfl ?_
  refine wq_icmp_ge (pc := 178) (tgt := 206) dM_clause_178 (by decide) (fun c1 => ?_) (fun c1 => ?_)
  · have H := H.1 c1
    obtain ⟨s2, H⟩ := H
    refine wq_aload_n (pc := 206) dM_clause_206 rfl rfl ?_
    refine wq_getR (pc := 207) (z := 0) (b := 81) dM_clause_207 fO_M_9 sh_80 rfl rfl (rf_80_0 hS) ?_
    refine wq_iconst (pc := 210) dM_clause_210 rfl ?_
    refine wq_dup2 (pc := 211) dM_clause_211 rfl rfl ?_
    refine wq_iald (pc := 212) dM_clause_212 sh_81 (by decide) (by decide) ?_
    refine wq_iconst (pc := 213) dM_clause_213 rfl ?_
    refine wq_iadd (pc := 214) dM_clause_214 ?_
    refine wq_re (x := (wr (gI M 81 5 + 1))) (y := (gI M 81 5 + 1)) (Eq.trans (wr_eq (by omega) (by omega)) (by omega)) ?_
    refine wq_iast (pc := 215) dM_clause_215 sh_81 (by decide) (by decide) (by decide) ?_
    refine wq_iload_n (pc := 216) dM_clause_216 rfl rfl ?_
    refine wq_ireturn (pc := 217) dM_clause_217 trivial ?_
    exact H
  · have H := H.2 c1
    obtain ⟨⟨s3, s4, s5⟩, H⟩ := H
    refine wq_aload_n (pc := 181) dM_clause_181 rfl rfl ?_
    refine wq_getR (pc := 182) (z := 0) (b := 81) dM_clause_182 fO_M_9 sh_80 rfl rfl (rf_80_0 hS) ?_
    refine wq_iload (pc := 185) dM_clause_185 rfl ?_
    refine wq_iconst (pc := 187) dM_clause_187 rfl ?_
    refine wq_iadd (pc := 188) dM_clause_188 ?_
    refine wq_iload (pc := 189) dM_clause_189 rfl ?_
    refine wq_iadd (pc := 191) dM_clause_191 ?_
    refine wq_aload_n (pc := 192) dM_clause_192 rfl rfl ?_
    refine wq_getR (pc := 193) (z := 19) (b := 94) dM_clause_193 fO_M_49 sh_80 rfl rfl (rf_80_19 hS) ?_
    refine wq_iload (pc := 196) dM_clause_196 rfl ?_
    refine wq_iald (pc := 198) dM_clause_198 sh_94 s3.1 s3.2 ?_
    refine wq_re2 (x := (wr (wr (x4 + 3) + x5))) (y := (x4 + 3 + x5)) (by (try simp only [wr_al, wr_ar, wr_sl, wr_sr, wr_ml, wr_mr, wr_nn, wr_ww]); exact Eq.trans (wr_eq (by omega) (by omega)) (by omega)) ?_
    refine wq_iast (pc := 199) dM_clause_199 sh_81 (by decide) s4.1 s4.2 ?_
    refine wq_iinc (pc := 200) (lo' := [iR 80, iI x1, iI x2, iI x3, iI x4, iI (x5 + 1)]) dM_clause_200 rfl rfl (by rw [show wr (x5 + 1) = x5 + 1 from (Eq.trans (wr_eq (by omega) (by omega)) (by omega))]; rfl) ?_
    refine wq_goto (pc := 203) (tgt := 172) dM_clause_203 (by decide) ?_
    exact H
set_option maxRecDepth 20000 in
theorem B_M_forced_0 {x1 x2 : Int} {M : Mm} {Q : Mm → Option Mv → Prop} (H : Wq 2 0 0 mM_forced 5 [iR 80, iI x1, iI x2, iI ((-1)), iI 0, none] [] M Q) : Wq 2 0 0 mM_forced 0 [iR 80, iI x1, iI x2, none, none, none] [] M Q := by
  refine wq_iconst (pc := 0) dM_forced_0 rfl ?_
  refine wq_istore_n (pc := 1) (lo' := [iR 80, iI x1, iI x2, iI ((-1)), none, none]) dM_forced_1 rfl rfl rfl ?_
  refine wq_iconst (pc := 2) dM_forced_2 rfl ?_
  refine wq_istore (pc := 3) (lo' := [iR 80, iI x1, iI x2, iI ((-1)), iI 0, none]) dM_forced_3 rfl rfl ?_
  exact H

set_option maxRecDepth 20000 in
theorem B_M_forced_5 {x1 x2 x3 x4 : Int} {M : Mm} {Q : Mm → Option Mv → Prop} (hS : RefOK M) (H : ((gI M 81 5 ≤ x4 → Q M (some (vI x3))) ∧ (¬ gI M 81 5 ≤ x4 → (((-2147483648 ≤ 288 + 73 * x4 ∧ 288 + 73 * x4 < 2147483648) ∧ (0 ≤ 288 + 73 * x4 ∧ 288 + 73 * x4 < 1993)) ∧ ((¬ gI M 81 (288 + 73 * x4) = x1 → ((-2147483648 ≤ x4 + 1 ∧ x4 + 1 < 2147483648) ∧ Wq 2 0 0 mM_forced 5 [iR 80, iI x1, iI x2, iI x3, iI (x4 + 1), none] [] M Q)) ∧ (gI M 81 (288 + 73 * x4) = x1 → (((0 ≤ 289 + 73 * x4 ∧ 289 + 73 * x4 < 1993) ∧ (0 ≤ 150 + 7 * x2 ∧ 150 + 7 * x2 < 1993)) ∧ ((gI M 81 (150 + 7 * x2) < gI M 81 (289 + 73 * x4) → ((-2147483648 ≤ x4 + 1 ∧ x4 + 1 < 2147483648) ∧ Wq 2 0 0 mM_forced 5 [iR 80, iI x1, iI x2, iI x3, iI (x4 + 1), none] [] M Q)) ∧ (¬ gI M 81 (150 + 7 * x2) < gI M 81 (289 + 73 * x4) → ((-2147483648 ≤ x4 + 1 ∧ x4 + 1 < 2147483648) ∧ Wq 2 0 0 mM_forced 5 [iR 80, iI x1, iI x2, iI x4, iI (x4 + 1), none] [] M Q)))))))))) : Wq 2 0 0 mM_forced 5 [iR 80, iI x1, iI x2, iI x3, iI x4, none] [] M Q := by
  refine wq_iload (pc := 5) dM_forced_5 rfl ?_
  refine wq_aload_n (pc := 7) dM_forced_7 rfl rfl ?_
  refine wq_getR (pc := 8) (z := 0) (b := 81) dM_forced_8 fO_M_9 sh_80 rfl rfl (rf_80_0 hS) ?_
  refine wq_iconst (pc := 11) dM_forced_11 rfl ?_
  refine wq_iald (pc := 12) dM_forced_12 sh_81 (by decide) (by decide) ?_
  refine wq_icmp_ge (pc := 13) (tgt := 71) dM_forced_13 (by decide) (fun c1 => ?_) (fun c1 => ?_)
  · have H := H.1 c1
    refine wq_iload_n (pc := 71) dM_forced_71 rfl rfl ?_
    refine wq_ireturn (pc := 72) dM_forced_72 trivial ?_
    exact H
  · have H := H.2 c1
    obtain ⟨⟨s2, s3⟩, H⟩ := H
    refine wq_sipush (pc := 16) dM_forced_16 rfl ?_
    refine wq_bipush (pc := 19) dM_forced_19 rfl ?_
    refine wq_iload (pc := 21) dM_forced_21 rfl ?_
    refine wq_imul (pc := 23) dM_forced_23 ?_
    refine wq_iadd (pc := 24) dM_forced_24 ?_
    refine wq_re (x := (wr (288 + wr (73 * x4)))) (y := (288 + 73 * x4)) (by (try simp only [wr_al, wr_ar, wr_sl, wr_sr, wr_ml, wr_mr, wr_nn, wr_ww]); exact Eq.trans (wr_eq (by omega) (by omega)) (by omega)) ?_
    refine wq_istore (pc := 25) (lo' := [iR 80, iI x1, iI x2, iI x3, iI x4, iI (288 + 73 * x4)]) dM_forced_25 rfl rfl ?_
    refine wq_aload_n (pc := 27) dM_forced_27 rfl rfl ?_
    refine wq_getR (pc := 28) (z := 0) (b := 81) dM_forced_28 fO_M_9 sh_80 rfl rfl (rf_80_0 hS) ?_
    refine wq_iload (pc := 31) dM_forced_31 rfl ?_
    refine wq_iconst (pc := 33) dM_forced_33 rfl ?_
    refine wq_iadd (pc := 34) dM_forced_34 ?_
    refine wq_re (x := (wr (288 + 73 * x4 + 0))) (y := (288 + 73 * x4)) (Eq.trans (wr_eq (by omega) (by omega)) (by omega)) ?_
    refine wq_iald (pc := 35) dM_forced_35 sh_81 s3.1 s3.2 ?_
    refine wq_iload_n (pc := 36) dM_forced_36 rfl rfl ?_
    refine wq_icmp_ne (pc := 37) (tgt := 63) dM_forced_37 (by decide) (fun c4 => ?_) (fun c4 => ?_)
    · have H := H.1 c4
      obtain ⟨s5, H⟩ := H
      refine wq_iload_n (pc := 63) dM_forced_63 rfl rfl ?_
      refine wq_istore_n (pc := 64) (lo' := [iR 80, iI x1, iI x2, iI x3, iI x4, iI (288 + 73 * x4)]) dM_forced_64 rfl rfl rfl ?_
      refine wq_iinc (pc := 65) (lo' := [iR 80, iI x1, iI x2, iI x3, iI (x4 + 1), iI (288 + 73 * x4)]) dM_forced_65 rfl rfl (by rw [show wr (x4 + 1) = x4 + 1 from (Eq.trans (wr_eq (by omega) (by omega)) (by omega))]; rfl) ?_
      refine wq_goto (pc := 68) (tgt := 5) dM_forced_68 (by decide) ?_
      refine wq_drop [5] (lo' := [iR 80, iI x1, iI x2, iI x3, iI (x4 + 1), none]) rfl ?_
      exact H
    · have H := H.2 c4
      obtain ⟨⟨s6, s7⟩, H⟩ := H
      refine wq_aload_n (pc := 40) dM_forced_40 rfl rfl ?_
      refine wq_getR (pc := 41) (z := 0) (b := 81) dM_forced_41 fO_M_9 sh_80 rfl rfl (rf_80_0 hS) ?_
      refine wq_iload (pc := 44) dM_forced_44 rfl ?_
      refine wq_iconst (pc := 46) dM_forced_46 rfl ?_
      refine wq_iadd (pc := 47) dM_forced_47 ?_
      refine wq_re (x := (wr (288 + 73 * x4 + 1))) (y := (289 + 73 * x4)) (Eq.trans (wr_eq (by omega) (by omega)) (by omega)) ?_
      refine wq_iald (pc := 48) dM_forced_48 sh_81 s6.1 s6.2 ?_
      refine wq_aload_n (pc := 49) dM_forced_49 rfl rfl ?_
      refine wq_iload_n (pc := 50) dM_forced_50 rfl rfl ?_
      refine wq_iconst (pc := 51) dM_forced_51 rfl ?_
      refine wq_callV (d' := 1) (pc := 52) (as := [vI x2, vI 2]) (rest := [vI (gI M 81 (289 + 73 * x4))]) (lo' := [iR 80, iI x2, iI 2]) dM_forced_52 mO_M_event2 lV_M_123 sh_80 (by decide) cl_11 rfl rfl rfl rfl rfl rfl ?_
      refine sp_M_event2 (i := (150 + 7 * x2)) (by omega) hS s7 ?_
      show Wq 2 0 0 mM_forced 55 [iR 80, iI x1, iI x2, iI x3, iI x4, iI (288 + 73 * x4)] [vI (gI M 81 (150 + 7 * x2)), vI (gI M 81 (289 + 73 * x4))] M _
      refine wq_icmp_gt (pc := 55) (tgt := 63) dM_forced_55 (by decide) (fun c8 => ?_) (fun c8 => ?_)
      · have H := H.1 c8
        obtain ⟨s9, H⟩ := H
        refine wq_iload_n (pc := 63) dM_forced_63 rfl rfl ?_
        refine wq_istore_n (pc := 64) (lo' := [iR 80, iI x1, iI x2, iI x3, iI x4, iI (288 + 73 * x4)]) dM_forced_64 rfl rfl rfl ?_
        refine wq_iinc (pc := 65) (lo' := [iR 80, iI x1, iI x2, iI x3, iI (x4 + 1), iI (288 + 73 * x4)]) dM_forced_65 rfl rfl (by rw [show wr (x4 + 1) = x4 + 1 from (Eq.trans (wr_eq (by omega) (by omega)) (by omega))]; rfl) ?_
        refine wq_goto (pc := 68) (tgt := 5) dM_forced_68 (by decide) ?_
        refine wq_drop [5] (lo' := [iR 80, iI x1, iI x2, iI x3, iI (x4 + 1), none]) rfl ?_
        exact H
      · have H := H.2 c8
        obtain ⟨s10, H⟩ := H
        refine wq_iload (pc := 58) dM_forced_58 rfl ?_
        refine wq_goto (pc := 60) (tgt := 64) dM_forced_60 (by decide) ?_
        refine wq_istore_n (pc := 64) (lo' := [iR 80, iI x1, iI x2, iI x4, iI x4, iI (288 + 73 * x4)]) dM_forced_64 rfl rfl rfl ?_
        refine wq_iinc (pc := 65) (lo' := [iR 80, iI x1, iI x2, iI x4, iI (x4 + 1), iI (288 + 73 * x4)]) dM_forced_65 rfl rfl (by rw [show wr (x4 + 1) = x4 + 1 from (Eq.trans (wr_eq (by omega) (by omega)) (by omega))]; rfl) ?_
        refine wq_goto (pc := 68) (tgt := 5) dM_forced_68 (by decide) ?_
        refine wq_drop [5] (lo' := [iR 80, iI x1, iI x2, iI x4, iI (x4 + 1), none]) rfl ?_
        exact H
set_option maxRecDepth 20000 in
theorem B_M_force_0 {x1 x2 : Int} {M : Mm} {Q : Mm → Option Mv → Prop} (hS : RefOK M) (H : ((0 ≤ x1 ∧ x1 ≤ 1 → (0 ≤ gI M 81 4 ∧ ((0 ≤ x2 ∧ x2 < gI M 81 4 → Wq 2 0 0 mM_forced 0 [iR 80, iI x1, iI x2, none, none, none] [] M (fun M' v => Wq 3 0 0 mM_force 32 [iR 80, iI x1, iI x2, none] (v.toList ++ []) M' Q)) ∧ (¬ (0 ≤ x2 ∧ x2 < gI M 81 4) → Q (sI M 83 1 (wr (gI M 83 1 + 1))) (some (vI (-1000001))))))) ∧ (¬ (0 ≤ x1 ∧ x1 ≤ 1) → Q (sI M 83 1 (wr (gI M 83 1 + 1))) (some (vI (-1000001)))))) : Wq 3 0 0 mM_force 0 [iR 80, iI x1, iI x2, none] [] M Q := by
  refine wq_iload_n (pc := 0) dM_force_0 rfl rfl ?_
  refine wq_i2l (pc := 1) dM_force_1 ?_
  refine wq_lconst (pc := 2) (x := 0) dM_force_2 rfl rfl ?_
  refine wq_lconst (pc := 3) (x := 1) dM_force_3 rfl rfl ?_
  refine wq_callS (d' := 1) (pc := 4) (as := [vL x1, vL 0, vL 1]) (rest := []) (lo' := [iL x1, none, iL 0, none, iL 1, none]) dM_force_4 mO_M_within lS_M_68 rfl rfl rfl rfl rfl rfl ?_
  refine sp_M_within (fun c1 => ?_) (fun c1 => ?_)
  · have H := H.1 c1
    show Wq 3 0 0 mM_force 7 [iR 80, iI x1, iI x2, none] [vI 1] M _
    obtain ⟨s2, H⟩ := H
    refine wq_if_eq (pc := 7) (tgt := 19) dM_force_7 (by decide) (fun q => absurd q (by decide)) (fun _ => ?_)
    refine wq_aload_n (pc := 10) dM_force_10 rfl rfl ?_
    refine wq_iload_n (pc := 11) dM_force_11 rfl rfl ?_
    refine wq_iconst (pc := 12) dM_force_12 rfl ?_
    refine wq_callV (d' := 2) (pc := 13) (as := [vI x2, vI 4]) (rest := []) (lo' := [iR 80, iI x2, iI 4]) dM_force_13 mO_M_is lV_M_84 sh_80 (by decide) cl_11 rfl rfl rfl rfl rfl rfl ?_
    refine sp_M_is (c := 4) (by decide) hS s2 (fun c3 => ?_) (fun c3 => ?_)
    · have H := H.1 c3
      show Wq 3 0 0 mM_force 16 [iR 80, iI x1, iI x2, none] [vI 1] M _
      refine wq_if_ne (pc := 16) (tgt := 26) dM_force_16 (by decide) (fun _ => ?_) (fun q => absurd q (by decide))
      refine wq_aload_n (pc := 26) dM_force_26 rfl rfl ?_
      refine wq_iload_n (pc := 27) dM_force_27 rfl rfl ?_
      refine wq_iload_n (pc := 28) dM_force_28 rfl rfl ?_
      refine wq_callV (d' := 2) (pc := 29) (as := [vI x1, vI x2]) (rest := []) (lo' := [iR 80, iI x1, iI x2, none, none, none]) dM_force_29 mO_M_forced lV_M_240 sh_80 (by decide) cl_11 rfl rfl rfl rfl rfl rfl ?_
      exact H
    · have H := H.2 c3
      show Wq 3 0 0 mM_force 16 [iR 80, iI x1, iI x2, none] [vI 0] M _
      refine wq_if_ne (pc := 16) (tgt := 26) dM_force_16 (by decide) (fun q => absurd q (by decide)) (fun _ => ?_)
      refine wq_aload_n (pc := 19) dM_force_19 rfl rfl ?_
      refine wq_ldc (pc := 20) (z := (-1000001)) dM_force_20 kO_M_78 (by decide) ?_
      refine wq_callV (d' := 1) (pc := 22) (as := [vI (-1000001)]) (rest := []) (lo' := [iR 80, iI ((-1000001))]) dM_force_22 mO_M_finding lV_M_79 sh_80 (by decide) cl_11 rfl rfl rfl rfl rfl rfl ?_
      refine sp_M_finding (k := 1) (by decide) (by decide) (by decide) hS ?_
      show Wq 3 0 0 mM_force 25 [iR 80, iI x1, iI x2, none] [vI (-1000001)] (sI M 83 1 (wr (gI M 83 1 + 1))) _
      refine wq_ireturn (pc := 25) dM_force_25 trivial ?_
      exact H
  · have H := H.2 c1
    show Wq 3 0 0 mM_force 7 [iR 80, iI x1, iI x2, none] [vI 0] M _
    refine wq_if_eq (pc := 7) (tgt := 19) dM_force_7 (by decide) (fun _ => ?_) (fun q => absurd (by decide) q)
    refine wq_aload_n (pc := 19) dM_force_19 rfl rfl ?_
    refine wq_ldc (pc := 20) (z := (-1000001)) dM_force_20 kO_M_78 (by decide) ?_
    refine wq_callV (d' := 1) (pc := 22) (as := [vI (-1000001)]) (rest := []) (lo' := [iR 80, iI ((-1000001))]) dM_force_22 mO_M_finding lV_M_79 sh_80 (by decide) cl_11 rfl rfl rfl rfl rfl rfl ?_
    refine sp_M_finding (k := 1) (by decide) (by decide) (by decide) hS ?_
    show Wq 3 0 0 mM_force 25 [iR 80, iI x1, iI x2, none] [vI (-1000001)] (sI M 83 1 (wr (gI M 83 1 + 1))) _
    refine wq_ireturn (pc := 25) dM_force_25 trivial ?_
    exact H

set_option maxRecDepth 20000 in
theorem B_M_force_32 {x1 x2 y0 : Int} {M : Mm} {Q : Mm → Option Mv → Prop} (hS : RefOK M) (H : ((0 ≤ y0 → Q M (some (vI y0))) ∧ (¬ 0 ≤ y0 → Q (sI M 83 2 (wr (gI M 83 2 + 1))) (some (vI (-1000002)))))) : Wq 3 0 0 mM_force 32 [iR 80, iI x1, iI x2, none] [vI y0] M Q := by
  refine wq_istore_n (pc := 32) (lo' := [iR 80, iI x1, iI x2, iI y0]) dM_force_32 rfl rfl rfl ?_
  refine wq_iload_n (pc := 33) dM_force_33 rfl rfl ?_
  refine wq_if_ge (pc := 34) (tgt := 46) dM_force_34 (by decide) (fun c1 => ?_) (fun c1 => ?_)
  · have H := H.1 c1
    refine wq_iload_n (pc := 46) dM_force_46 rfl rfl ?_
    refine wq_ireturn (pc := 47) dM_force_47 trivial ?_
    exact H
  · have H := H.2 c1
    refine wq_aload_n (pc := 37) dM_force_37 rfl rfl ?_
    refine wq_ldc (pc := 38) (z := (-1000002)) dM_force_38 kO_M_114 (by decide) ?_
    refine wq_callV (d' := 1) (pc := 40) (as := [vI (-1000002)]) (rest := []) (lo' := [iR 80, iI ((-1000002))]) dM_force_40 mO_M_finding lV_M_79 sh_80 (by decide) cl_11 rfl rfl rfl rfl rfl rfl ?_
    refine sp_M_finding (k := 2) (by decide) (by decide) (by decide) hS ?_
    show Wq 3 0 0 mM_force 43 [iR 80, iI x1, iI x2, iI y0] [vI (-1000002)] (sI M 83 2 (wr (gI M 83 2 + 1))) _
    refine wq_goto (pc := 43) (tgt := 47) dM_force_43 (by decide) ?_
    refine wq_ireturn (pc := 47) dM_force_47 trivial ?_
    exact H
set_option maxRecDepth 20000 in
theorem B_M_isTwo_0 {x1 : Int} {M : Mm} {Q : Mm → Option Mv → Prop} (hS : RefOK M) (H : Wq 2 0 0 mM_knownOn 0 [iR 80, iI (gI M 81 0), none, none, none] [] M (fun M' v => Wq 3 0 0 mM_isTwo 10 [iR 80, iI x1, none, none, none, none] (v.toList ++ []) M' Q)) : Wq 3 0 0 mM_isTwo 0 [iR 80, iI x1, none, none, none, none] [] M Q := by
  refine wq_aload_n (pc := 0) dM_isTwo_0 rfl rfl ?_
  refine wq_aload_n (pc := 1) dM_isTwo_1 rfl rfl ?_
  refine wq_getR (pc := 2) (z := 0) (b := 81) dM_isTwo_2 fO_M_9 sh_80 rfl rfl (rf_80_0 hS) ?_
  refine wq_iconst (pc := 5) dM_isTwo_5 rfl ?_
  refine wq_iald (pc := 6) dM_isTwo_6 sh_81 (by decide) (by decide) ?_
  refine wq_callV (d' := 2) (pc := 7) (as := [vI (gI M 81 0)]) (rest := []) (lo' := [iR 80, iI (gI M 81 0), none, none, none]) dM_isTwo_7 mO_M_knownOn lV_M_132 sh_80 (by decide) cl_11 rfl rfl rfl rfl rfl rfl ?_
  exact H

set_option maxRecDepth 20000 in
theorem B_M_isTwo_10 {x1 y0 : Int} {M : Mm} {Q : Mm → Option Mv → Prop} (H : Wq 3 0 0 mM_isTwo 16 [iR 80, iI x1, iI y0, iI 0, iI 0, none] [] M Q) : Wq 3 0 0 mM_isTwo 10 [iR 80, iI x1, none, none, none, none] [vI y0] M Q := by
  refine wq_istore_n (pc := 10) (lo' := [iR 80, iI x1, iI y0, none, none, none]) dM_isTwo_10 rfl rfl rfl ?_
  refine wq_iconst (pc := 11) dM_isTwo_11 rfl ?_
  refine wq_istore_n (pc := 12) (lo' := [iR 80, iI x1, iI y0, iI 0, none, none]) dM_isTwo_12 rfl rfl rfl ?_
  refine wq_iconst (pc := 13) dM_isTwo_13 rfl ?_
  refine wq_istore (pc := 14) (lo' := [iR 80, iI x1, iI y0, iI 0, iI 0, none]) dM_isTwo_14 rfl rfl ?_
  exact H

set_option maxRecDepth 20000 in
theorem B_M_isTwo_16 {x1 x2 x3 x4 : Int} {M : Mm} {Q : Mm → Option Mv → Prop} (hS : RefOK M) (H : ((gI M 81 4 ≤ x4 → ((x3 = 0 ∨ x3 = 1) ∧ Q M (some (vI x3)))) ∧ (¬ gI M 81 4 ≤ x4 → (((0 ≤ 150 + 7 * x4 ∧ 150 + 7 * x4 < 1993) ∧ (0 ≤ 150 + 7 * x1 ∧ 150 + 7 * x1 < 1993) ∧ (0 ≤ 151 + 7 * x1 ∧ 151 + 7 * x1 < 1993) ∧ (-2147483648 ≤ gI M 81 (150 + 7 * x1) + gI M 81 (151 + 7 * x1) ∧ gI M 81 (150 + 7 * x1) + gI M 81 (151 + 7 * x1) < 2147483648)) ∧ ((gI M 81 (150 + 7 * x1) + gI M 81 (151 + 7 * x1) ≤ gI M 81 (150 + 7 * x4) → ((¬ x3 = 0 → ((-2147483648 ≤ x4 + 1 ∧ x4 + 1 < 2147483648) ∧ Wq 3 0 0 mM_isTwo 16 [iR 80, iI x1, iI x2, iI 1, iI (x4 + 1), none] [] M Q)) ∧ (x3 = 0 → ((x4 = x1 → ((-2147483648 ≤ x4 + 1 ∧ x4 + 1 < 2147483648) ∧ Wq 3 0 0 mM_isTwo 16 [iR 80, iI x1, iI x2, iI 0, iI (x4 + 1), none] [] M Q)) ∧ (¬ x4 = x1 → ((0 ≤ x2 ∧ x2 < 2147483648 ∧ 0 ≤ x4 ∧ x4 < 32) ∧ ((hb x2 x4 = true → (((0 ≤ 149 + 7 * x4 ∧ 149 + 7 * x4 < 1993) ∧ (0 ≤ 149 + 7 * x1 ∧ 149 + 7 * x1 < 1993)) ∧ ((gI M 81 (149 + 7 * x4) = gI M 81 (149 + 7 * x1) → ((-2147483648 ≤ x4 + 1 ∧ x4 + 1 < 2147483648) ∧ Wq 3 0 0 mM_isTwo 16 [iR 80, iI x1, iI x2, iI 0, iI (x4 + 1), none] [] M Q)) ∧ (¬ gI M 81 (149 + 7 * x4) = gI M 81 (149 + 7 * x1) → ((-2147483648 ≤ x4 + 1 ∧ x4 + 1 < 2147483648) ∧ Wq 3 0 0 mM_isTwo 16 [iR 80, iI x1, iI x2, iI 0, iI (x4 + 1), none] [] M Q))))) ∧ (¬ (hb x2 x4 = true) → ((-2147483648 ≤ x4 + 1 ∧ x4 + 1 < 2147483648) ∧ Wq 3 0 0 mM_isTwo 16 [iR 80, iI x1, iI x2, iI 0, iI (x4 + 1), none] [] M Q))))))))) ∧ (¬ gI M 81 (150 + 7 * x1) + gI M 81 (151 + 7 * x1) ≤ gI M 81 (150 + 7 * x4) → (((0 ≤ 150 + 7 * x1 ∧ 150 + 7 * x1 < 1993) ∧ (0 ≤ 150 + 7 * x4 ∧ 150 + 7 * x4 < 1993) ∧ (0 ≤ 151 + 7 * x4 ∧ 151 + 7 * x4 < 1993) ∧ (-2147483648 ≤ gI M 81 (150 + 7 * x4) + gI M 81 (151 + 7 * x4) ∧ gI M 81 (150 + 7 * x4) + gI M 81 (151 + 7 * x4) < 2147483648)) ∧ ((gI M 81 (150 + 7 * x4) + gI M 81 (151 + 7 * x4) ≤ gI M 81 (150 + 7 * x1) → ((¬ x3 = 0 → ((-2147483648 ≤ x4 + 1 ∧ x4 + 1 < 2147483648) ∧ Wq 3 0 0 mM_isTwo 16 [iR 80, iI x1, iI x2, iI 1, iI (x4 + 1), none] [] M Q)) ∧ (x3 = 0 → ((x4 = x1 → ((-2147483648 ≤ x4 + 1 ∧ x4 + 1 < 2147483648) ∧ Wq 3 0 0 mM_isTwo 16 [iR 80, iI x1, iI x2, iI 0, iI (x4 + 1), none] [] M Q)) ∧ (¬ x4 = x1 → ((0 ≤ x2 ∧ x2 < 2147483648 ∧ 0 ≤ x4 ∧ x4 < 32) ∧ ((hb x2 x4 = true → (((0 ≤ 149 + 7 * x4 ∧ 149 + 7 * x4 < 1993) ∧ (0 ≤ 149 + 7 * x1 ∧ 149 + 7 * x1 < 1993)) ∧ ((gI M 81 (149 + 7 * x4) = gI M 81 (149 + 7 * x1) → ((-2147483648 ≤ x4 + 1 ∧ x4 + 1 < 2147483648) ∧ Wq 3 0 0 mM_isTwo 16 [iR 80, iI x1, iI x2, iI 0, iI (x4 + 1), none] [] M Q)) ∧ (¬ gI M 81 (149 + 7 * x4) = gI M 81 (149 + 7 * x1) → ((-2147483648 ≤ x4 + 1 ∧ x4 + 1 < 2147483648) ∧ Wq 3 0 0 mM_isTwo 16 [iR 80, iI x1, iI x2, iI 0, iI (x4 + 1), none] [] M Q))))) ∧ (¬ (hb x2 x4 = true) → ((-2147483648 ≤ x4 + 1 ∧ x4 + 1 < 2147483648) ∧ Wq 3 0 0 mM_isTwo 16 [iR 80, iI x1, iI x2, iI 0, iI (x4 + 1), none] [] M Q))))))))) ∧ (¬ gI M 81 (150 + 7 * x4) + gI M 81 (151 + 7 * x4) ≤ gI M 81 (150 + 7 * x1) → ((¬ x3 = 0 → ((-2147483648 ≤ x4 + 1 ∧ x4 + 1 < 2147483648) ∧ Wq 3 0 0 mM_isTwo 16 [iR 80, iI x1, iI x2, iI 1, iI (x4 + 1), none] [] M Q)) ∧ (x3 = 0 → ((x4 = x1 → ((-2147483648 ≤ x4 + 1 ∧ x4 + 1 < 2147483648) ∧ Wq 3 0 0 mM_isTwo 16 [iR 80, iI x1, iI x2, iI 0, iI (x4 + 1), none] [] M Q)) ∧ (¬ x4 = x1 → ((0 ≤ x2 ∧ x2 < 2147483648 ∧ 0 ≤ x4 ∧ x4 < 32) ∧ ((hb x2 x4 = true → (((0 ≤ 149 + 7 * x4 ∧ 149 + 7 * x4 < 1993) ∧ (0 ≤ 149 + 7 * x1 ∧ 149 + 7 * x1 < 1993)) ∧ ((gI M 81 (149 + 7 * x4) = gI M 81 (149 + 7 * x1) → ((-2147483648 ≤ x4 + 1 ∧ x4 + 1 < 2147483648) ∧ Wq 3 0 0 mM_isTwo 16 [iR 80, iI x1, iI x2, iI 0, iI (x4 + 1), none] [] M Q)) ∧ (¬ gI M 81 (149 + 7 * x4) = gI M 81 (149 + 7 * x1) → ((-2147483648 ≤ x4 + 1 ∧ x4 + 1 < 2147483648) ∧ Wq 3 0 0 mM_isTwo 16 [iR 80, iI x1, iI x2, iI 1, iI (x4 + 1), none] [] M Q))))) ∧ (¬ (hb x2 x4 = true) → ((-2147483648 ≤ x4 + 1 ∧ x4 + 1 < 2147483648) ∧ Wq 3 0 0 mM_isTwo 16 [iR 80, iI x1, iI x2, iI 0, iI (x4 + 1), none] [] M Q))))))))))))))))) : Wq 3 0 0 mM_isTwo 16 [iR 80, iI x1, iI x2, iI x3, iI x4, none] [] M Q := by
  refine wq_iload (pc := 16) dM_isTwo_16 rfl ?_
  refine wq_aload_n (pc := 18) dM_isTwo_18 rfl rfl ?_
  refine wq_getR (pc := 19) (z := 0) (b := 81) dM_isTwo_19 fO_M_9 sh_80 rfl rfl (rf_80_0 hS) ?_
  refine wq_iconst (pc := 22) dM_isTwo_22 rfl ?_
  refine wq_iald (pc := 23) dM_isTwo_23 sh_81 (by decide) (by decide) ?_
  refine wq_icmp_ge (pc := 24) (tgt := 133) dM_isTwo_24 (by decide) (fun c1 => ?_) (fun c1 => ?_)
  · have H := H.1 c1
    obtain ⟨s2, H⟩ := H
    refine wq_iload_n (pc := 133) dM_isTwo_133 rfl rfl ?_
    refine wq_ireturn (pc := 134) dM_isTwo_134 s2 ?_
    exact H
  · have H := H.2 c1
    obtain ⟨⟨s3, s4, s5, s6⟩, H⟩ := H
    refine wq_aload_n (pc := 27) dM_isTwo_27 rfl rfl ?_
    refine wq_iload (pc := 28) dM_isTwo_28 rfl ?_
    refine wq_iconst (pc := 30) dM_isTwo_30 rfl ?_
    refine wq_callV (d' := 1) (pc := 31) (as := [vI x4, vI 2]) (rest := []) (lo' := [iR 80, iI x4, iI 2]) dM_isTwo_31 mO_M_event2 lV_M_123 sh_80 (by decide) cl_11 rfl rfl rfl rfl rfl rfl ?_
    refine sp_M_event2 (i := (150 + 7 * x4)) (by omega) hS s3 ?_
    show Wq 3 0 0 mM_isTwo 34 [iR 80, iI x1, iI x2, iI x3, iI x4, none] [vI (gI M 81 (150 + 7 * x4))] M _
    refine wq_aload_n (pc := 34) dM_isTwo_34 rfl rfl ?_
    refine wq_iload_n (pc := 35) dM_isTwo_35 rfl rfl ?_
    refine wq_iconst (pc := 36) dM_isTwo_36 rfl ?_
    refine wq_callV (d' := 1) (pc := 37) (as := [vI x1, vI 2]) (rest := [vI (gI M 81 (150 + 7 * x4))]) (lo' := [iR 80, iI x1, iI 2]) dM_isTwo_37 mO_M_event2 lV_M_123 sh_80 (by decide) cl_11 rfl rfl rfl rfl rfl rfl ?_
    refine sp_M_event2 (i := (150 + 7 * x1)) (by omega) hS s4 ?_
    show Wq 3 0 0 mM_isTwo 40 [iR 80, iI x1, iI x2, iI x3, iI x4, none] [vI (gI M 81 (150 + 7 * x1)), vI (gI M 81 (150 + 7 * x4))] M _
    refine wq_aload_n (pc := 40) dM_isTwo_40 rfl rfl ?_
    refine wq_iload_n (pc := 41) dM_isTwo_41 rfl rfl ?_
    refine wq_iconst (pc := 42) dM_isTwo_42 rfl ?_
    refine wq_callV (d' := 1) (pc := 43) (as := [vI x1, vI 3]) (rest := [vI (gI M 81 (150 + 7 * x1)), vI (gI M 81 (150 + 7 * x4))]) (lo' := [iR 80, iI x1, iI 3]) dM_isTwo_43 mO_M_event2 lV_M_123 sh_80 (by decide) cl_11 rfl rfl rfl rfl rfl rfl ?_
    refine sp_M_event2 (i := (151 + 7 * x1)) (by omega) hS s5 ?_
    show Wq 3 0 0 mM_isTwo 46 [iR 80, iI x1, iI x2, iI x3, iI x4, none] [vI (gI M 81 (151 + 7 * x1)), vI (gI M 81 (150 + 7 * x1)), vI (gI M 81 (150 + 7 * x4))] M _
    refine wq_iadd (pc := 46) dM_isTwo_46 ?_
    refine wq_re (x := (wr (gI M 81 (150 + 7 * x1) + gI M 81 (151 + 7 * x1)))) (y := (gI M 81 (150 + 7 * x1) + gI M 81 (151 + 7 * x1))) (Eq.trans (wr_eq (by omega) (by omega)) (by omega)) ?_
    refine wq_icmp_ge (pc := 47) (tgt := 78) dM_isTwo_47 (by decide) (fun c7 => ?_) (fun c7 => ?_)
    · have H := H.1 c7
      refine wq_iconst (pc := 78) dM_isTwo_78 rfl ?_
      refine wq_istore (pc := 79) (lo' := [iR 80, iI x1, iI x2, iI x3, iI x4, iI 0]) dM_isTwo_79 rfl rfl ?_
      refine wq_iload_n (pc := 81) dM_isTwo_81 rfl rfl ?_
      refine wq_if_ne (pc := 82) (tgt := 121) dM_isTwo_82 (by decide) (fun c8 => ?_) (fun c8 => ?_)
      · have H := H.1 c8
        obtain ⟨s9, H⟩ := H
        refine wq_iconst (pc := 121) dM_isTwo_121 rfl ?_
        refine wq_goto (pc := 122) (tgt := 126) dM_isTwo_122 (by decide) ?_
        refine wq_istore_n (pc := 126) (lo' := [iR 80, iI x1, iI x2, iI 1, iI x4, iI 0]) dM_isTwo_126 rfl rfl rfl ?_
        refine wq_iinc (pc := 127) (lo' := [iR 80, iI x1, iI x2, iI 1, iI (x4 + 1), iI 0]) dM_isTwo_127 rfl rfl (by rw [show wr (x4 + 1) = x4 + 1 from (Eq.trans (wr_eq (by omega) (by omega)) (by omega))]; rfl) ?_
        refine wq_goto (pc := 130) (tgt := 16) dM_isTwo_130 (by decide) ?_
        refine wq_drop [5] (lo' := [iR 80, iI x1, iI x2, iI 1, iI (x4 + 1), none]) rfl ?_
        exact H
      · have H := H.2 c8
        refine wq_iload (pc := 85) dM_isTwo_85 rfl ?_
        refine wq_iload_n (pc := 87) dM_isTwo_87 rfl rfl ?_
        refine wq_icmp_eq (pc := 88) (tgt := 125) dM_isTwo_88 (by decide) (fun c10 => ?_) (fun c10 => ?_)
        · have H := H.1 c10
          obtain ⟨s11, H⟩ := H
          refine wq_iconst (pc := 125) dM_isTwo_125 rfl ?_
          refine wq_istore_n (pc := 126) (lo' := [iR 80, iI x1, iI x2, iI 0, iI x4, iI 0]) dM_isTwo_126 rfl rfl rfl ?_
          refine wq_iinc (pc := 127) (lo' := [iR 80, iI x1, iI x2, iI 0, iI (x4 + 1), iI 0]) dM_isTwo_127 rfl rfl (by rw [show wr (x4 + 1) = x4 + 1 from (Eq.trans (wr_eq (by omega) (by omega)) (by omega))]; rfl) ?_
          refine wq_goto (pc := 130) (tgt := 16) dM_isTwo_130 (by decide) ?_
          refine wq_drop [5] (lo' := [iR 80, iI x1, iI x2, iI 0, iI (x4 + 1), none]) rfl ?_
          exact H
        · have H := H.2 c10
          obtain ⟨s12, H⟩ := H
          refine wq_iload_n (pc := 91) dM_isTwo_91 rfl rfl ?_
          refine wq_iload (pc := 92) dM_isTwo_92 rfl ?_
          refine wq_callS (d' := 1) (pc := 94) (as := [vI x2, vI x4]) (rest := []) (lo' := [iI x2, iI x4]) dM_isTwo_94 mO_M_has lS_M_102 rfl rfl rfl rfl rfl rfl ?_
          refine sp_M_has s12 (fun c13 => ?_) (fun c13 => ?_)
          · have H := H.1 c13
            show Wq 3 0 0 mM_isTwo 97 [iR 80, iI x1, iI x2, iI x3, iI x4, iI 0] [vI 1] M _
            obtain ⟨⟨s14, s15⟩, H⟩ := H
            refine wq_if_eq (pc := 97) (tgt := 125) dM_isTwo_97 (by decide) (fun q => absurd q (by decide)) (fun _ => ?_)
            refine wq_aload_n (pc := 100) dM_isTwo_100 rfl rfl ?_
            refine wq_iload (pc := 101) dM_isTwo_101 rfl ?_
            refine wq_iconst (pc := 103) dM_isTwo_103 rfl ?_
            refine wq_callV (d' := 1) (pc := 104) (as := [vI x4, vI 1]) (rest := []) (lo' := [iR 80, iI x4, iI 1]) dM_isTwo_104 mO_M_event2 lV_M_123 sh_80 (by decide) cl_11 rfl rfl rfl rfl rfl rfl ?_
            refine sp_M_event2 (i := (149 + 7 * x4)) (by omega) hS s14 ?_
            show Wq 3 0 0 mM_isTwo 107 [iR 80, iI x1, iI x2, iI x3, iI x4, iI 0] [vI (gI M 81 (149 + 7 * x4))] M _
            refine wq_aload_n (pc := 107) dM_isTwo_107 rfl rfl ?_
            refine wq_iload_n (pc := 108) dM_isTwo_108 rfl rfl ?_
            refine wq_iconst (pc := 109) dM_isTwo_109 rfl ?_
            refine wq_callV (d' := 1) (pc := 110) (as := [vI x1, vI 1]) (rest := [vI (gI M 81 (149 + 7 * x4))]) (lo' := [iR 80, iI x1, iI 1]) dM_isTwo_110 mO_M_event2 lV_M_123 sh_80 (by decide) cl_11 rfl rfl rfl rfl rfl rfl ?_
            refine sp_M_event2 (i := (149 + 7 * x1)) (by omega) hS s15 ?_
            show Wq 3 0 0 mM_isTwo 113 [iR 80, iI x1, iI x2, iI x3, iI x4, iI 0] [vI (gI M 81 (149 + 7 * x1)), vI (gI M 81 (149 + 7 * x4))] M _
            refine wq_icmp_eq (pc := 113) (tgt := 125) dM_isTwo_113 (by decide) (fun c16 => ?_) (fun c16 => ?_)
            · have H := H.1 c16
              obtain ⟨s17, H⟩ := H
              refine wq_iconst (pc := 125) dM_isTwo_125 rfl ?_
              refine wq_istore_n (pc := 126) (lo' := [iR 80, iI x1, iI x2, iI 0, iI x4, iI 0]) dM_isTwo_126 rfl rfl rfl ?_
              refine wq_iinc (pc := 127) (lo' := [iR 80, iI x1, iI x2, iI 0, iI (x4 + 1), iI 0]) dM_isTwo_127 rfl rfl (by rw [show wr (x4 + 1) = x4 + 1 from (Eq.trans (wr_eq (by omega) (by omega)) (by omega))]; rfl) ?_
              refine wq_goto (pc := 130) (tgt := 16) dM_isTwo_130 (by decide) ?_
              refine wq_drop [5] (lo' := [iR 80, iI x1, iI x2, iI 0, iI (x4 + 1), none]) rfl ?_
              exact H
            · have H := H.2 c16
              obtain ⟨s18, H⟩ := H
              refine wq_iload (pc := 116) dM_isTwo_116 rfl ?_
              refine wq_if_eq (pc := 118) (tgt := 125) dM_isTwo_118 (by decide) (fun _ => ?_) (fun q => absurd (by decide) q)
              refine wq_iconst (pc := 125) dM_isTwo_125 rfl ?_
              refine wq_istore_n (pc := 126) (lo' := [iR 80, iI x1, iI x2, iI 0, iI x4, iI 0]) dM_isTwo_126 rfl rfl rfl ?_
              refine wq_iinc (pc := 127) (lo' := [iR 80, iI x1, iI x2, iI 0, iI (x4 + 1), iI 0]) dM_isTwo_127 rfl rfl (by rw [show wr (x4 + 1) = x4 + 1 from (Eq.trans (wr_eq (by omega) (by omega)) (by omega))]; rfl) ?_
              refine wq_goto (pc := 130) (tgt := 16) dM_isTwo_130 (by decide) ?_
              refine wq_drop [5] (lo' := [iR 80, iI x1, iI x2, iI 0, iI (x4 + 1), none]) rfl ?_
              exact H
          · have H := H.2 c13
            show Wq 3 0 0 mM_isTwo 97 [iR 80, iI x1, iI x2, iI x3, iI x4, iI 0] [vI 0] M _
            obtain ⟨s19, H⟩ := H
            refine wq_if_eq (pc := 97) (tgt := 125) dM_isTwo_97 (by decide) (fun _ => ?_) (fun q => absurd (by decide) q)
            refine wq_iconst (pc := 125) dM_isTwo_125 rfl ?_
            refine wq_istore_n (pc := 126) (lo' := [iR 80, iI x1, iI x2, iI 0, iI x4, iI 0]) dM_isTwo_126 rfl rfl rfl ?_
            refine wq_iinc (pc := 127) (lo' := [iR 80, iI x1, iI x2, iI 0, iI (x4 + 1), iI 0]) dM_isTwo_127 rfl rfl (by rw [show wr (x4 + 1) = x4 + 1 from (Eq.trans (wr_eq (by omega) (by omega)) (by omega))]; rfl) ?_
            refine wq_goto (pc := 130) (tgt := 16) dM_isTwo_130 (by decide) ?_
            refine wq_drop [5] (lo' := [iR 80, iI x1, iI x2, iI 0, iI (x4 + 1), none]) rfl ?_
            exact H
    · have H := H.2 c7
      obtain ⟨⟨s20, s21, s22, s23⟩, H⟩ := H
      refine wq_aload_n (pc := 50) dM_isTwo_50 rfl rfl ?_
      refine wq_iload_n (pc := 51) dM_isTwo_51 rfl rfl ?_
      refine wq_iconst (pc := 52) dM_isTwo_52 rfl ?_
      refine wq_callV (d' := 1) (pc := 53) (as := [vI x1, vI 2]) (rest := []) (lo' := [iR 80, iI x1, iI 2]) dM_isTwo_53 mO_M_event2 lV_M_123 sh_80 (by decide) cl_11 rfl rfl rfl rfl rfl rfl ?_
      refine sp_M_event2 (i := (150 + 7 * x1)) (by omega) hS s20 ?_
      show Wq 3 0 0 mM_isTwo 56 [iR 80, iI x1, iI x2, iI x3, iI x4, none] [vI (gI M 81 (150 + 7 * x1))] M _
      refine wq_aload_n (pc := 56) dM_isTwo_56 rfl rfl ?_
      refine wq_iload (pc := 57) dM_isTwo_57 rfl ?_
      refine wq_iconst (pc := 59) dM_isTwo_59 rfl ?_
      refine wq_callV (d' := 1) (pc := 60) (as := [vI x4, vI 2]) (rest := [vI (gI M 81 (150 + 7 * x1))]) (lo' := [iR 80, iI x4, iI 2]) dM_isTwo_60 mO_M_event2 lV_M_123 sh_80 (by decide) cl_11 rfl rfl rfl rfl rfl rfl ?_
      refine sp_M_event2 (i := (150 + 7 * x4)) (by omega) hS s21 ?_
      show Wq 3 0 0 mM_isTwo 63 [iR 80, iI x1, iI x2, iI x3, iI x4, none] [vI (gI M 81 (150 + 7 * x4)), vI (gI M 81 (150 + 7 * x1))] M _
      refine wq_aload_n (pc := 63) dM_isTwo_63 rfl rfl ?_
      refine wq_iload (pc := 64) dM_isTwo_64 rfl ?_
      refine wq_iconst (pc := 66) dM_isTwo_66 rfl ?_
      refine wq_callV (d' := 1) (pc := 67) (as := [vI x4, vI 3]) (rest := [vI (gI M 81 (150 + 7 * x4)), vI (gI M 81 (150 + 7 * x1))]) (lo' := [iR 80, iI x4, iI 3]) dM_isTwo_67 mO_M_event2 lV_M_123 sh_80 (by decide) cl_11 rfl rfl rfl rfl rfl rfl ?_
      refine sp_M_event2 (i := (151 + 7 * x4)) (by omega) hS s22 ?_
      show Wq 3 0 0 mM_isTwo 70 [iR 80, iI x1, iI x2, iI x3, iI x4, none] [vI (gI M 81 (151 + 7 * x4)), vI (gI M 81 (150 + 7 * x4)), vI (gI M 81 (150 + 7 * x1))] M _
      refine wq_iadd (pc := 70) dM_isTwo_70 ?_
      refine wq_re (x := (wr (gI M 81 (150 + 7 * x4) + gI M 81 (151 + 7 * x4)))) (y := (gI M 81 (150 + 7 * x4) + gI M 81 (151 + 7 * x4))) (Eq.trans (wr_eq (by omega) (by omega)) (by omega)) ?_
      refine wq_icmp_ge (pc := 71) (tgt := 78) dM_isTwo_71 (by decide) (fun c24 => ?_) (fun c24 => ?_)
      · have H := H.1 c24
        refine wq_iconst (pc := 78) dM_isTwo_78 rfl ?_
        refine wq_istore (pc := 79) (lo' := [iR 80, iI x1, iI x2, iI x3, iI x4, iI 0]) dM_isTwo_79 rfl rfl ?_
        refine wq_iload_n (pc := 81) dM_isTwo_81 rfl rfl ?_
        refine wq_if_ne (pc := 82) (tgt := 121) dM_isTwo_82 (by decide) (fun c25 => ?_) (fun c25 => ?_)
        · have H := H.1 c25
          obtain ⟨s26, H⟩ := H
          refine wq_iconst (pc := 121) dM_isTwo_121 rfl ?_
          refine wq_goto (pc := 122) (tgt := 126) dM_isTwo_122 (by decide) ?_
          refine wq_istore_n (pc := 126) (lo' := [iR 80, iI x1, iI x2, iI 1, iI x4, iI 0]) dM_isTwo_126 rfl rfl rfl ?_
          refine wq_iinc (pc := 127) (lo' := [iR 80, iI x1, iI x2, iI 1, iI (x4 + 1), iI 0]) dM_isTwo_127 rfl rfl (by rw [show wr (x4 + 1) = x4 + 1 from (Eq.trans (wr_eq (by omega) (by omega)) (by omega))]; rfl) ?_
          refine wq_goto (pc := 130) (tgt := 16) dM_isTwo_130 (by decide) ?_
          refine wq_drop [5] (lo' := [iR 80, iI x1, iI x2, iI 1, iI (x4 + 1), none]) rfl ?_
          exact H
        · have H := H.2 c25
          refine wq_iload (pc := 85) dM_isTwo_85 rfl ?_
          refine wq_iload_n (pc := 87) dM_isTwo_87 rfl rfl ?_
          refine wq_icmp_eq (pc := 88) (tgt := 125) dM_isTwo_88 (by decide) (fun c27 => ?_) (fun c27 => ?_)
          · have H := H.1 c27
            obtain ⟨s28, H⟩ := H
            refine wq_iconst (pc := 125) dM_isTwo_125 rfl ?_
            refine wq_istore_n (pc := 126) (lo' := [iR 80, iI x1, iI x2, iI 0, iI x4, iI 0]) dM_isTwo_126 rfl rfl rfl ?_
            refine wq_iinc (pc := 127) (lo' := [iR 80, iI x1, iI x2, iI 0, iI (x4 + 1), iI 0]) dM_isTwo_127 rfl rfl (by rw [show wr (x4 + 1) = x4 + 1 from (Eq.trans (wr_eq (by omega) (by omega)) (by omega))]; rfl) ?_
            refine wq_goto (pc := 130) (tgt := 16) dM_isTwo_130 (by decide) ?_
            refine wq_drop [5] (lo' := [iR 80, iI x1, iI x2, iI 0, iI (x4 + 1), none]) rfl ?_
            exact H
          · have H := H.2 c27
            obtain ⟨s29, H⟩ := H
            refine wq_iload_n (pc := 91) dM_isTwo_91 rfl rfl ?_
            refine wq_iload (pc := 92) dM_isTwo_92 rfl ?_
            refine wq_callS (d' := 1) (pc := 94) (as := [vI x2, vI x4]) (rest := []) (lo' := [iI x2, iI x4]) dM_isTwo_94 mO_M_has lS_M_102 rfl rfl rfl rfl rfl rfl ?_
            refine sp_M_has s29 (fun c30 => ?_) (fun c30 => ?_)
            · have H := H.1 c30
              show Wq 3 0 0 mM_isTwo 97 [iR 80, iI x1, iI x2, iI x3, iI x4, iI 0] [vI 1] M _
              obtain ⟨⟨s31, s32⟩, H⟩ := H
              refine wq_if_eq (pc := 97) (tgt := 125) dM_isTwo_97 (by decide) (fun q => absurd q (by decide)) (fun _ => ?_)
              refine wq_aload_n (pc := 100) dM_isTwo_100 rfl rfl ?_
              refine wq_iload (pc := 101) dM_isTwo_101 rfl ?_
              refine wq_iconst (pc := 103) dM_isTwo_103 rfl ?_
              refine wq_callV (d' := 1) (pc := 104) (as := [vI x4, vI 1]) (rest := []) (lo' := [iR 80, iI x4, iI 1]) dM_isTwo_104 mO_M_event2 lV_M_123 sh_80 (by decide) cl_11 rfl rfl rfl rfl rfl rfl ?_
              refine sp_M_event2 (i := (149 + 7 * x4)) (by omega) hS s31 ?_
              show Wq 3 0 0 mM_isTwo 107 [iR 80, iI x1, iI x2, iI x3, iI x4, iI 0] [vI (gI M 81 (149 + 7 * x4))] M _
              refine wq_aload_n (pc := 107) dM_isTwo_107 rfl rfl ?_
              refine wq_iload_n (pc := 108) dM_isTwo_108 rfl rfl ?_
              refine wq_iconst (pc := 109) dM_isTwo_109 rfl ?_
              refine wq_callV (d' := 1) (pc := 110) (as := [vI x1, vI 1]) (rest := [vI (gI M 81 (149 + 7 * x4))]) (lo' := [iR 80, iI x1, iI 1]) dM_isTwo_110 mO_M_event2 lV_M_123 sh_80 (by decide) cl_11 rfl rfl rfl rfl rfl rfl ?_
              refine sp_M_event2 (i := (149 + 7 * x1)) (by omega) hS s32 ?_
              show Wq 3 0 0 mM_isTwo 113 [iR 80, iI x1, iI x2, iI x3, iI x4, iI 0] [vI (gI M 81 (149 + 7 * x1)), vI (gI M 81 (149 + 7 * x4))] M _
              refine wq_icmp_eq (pc := 113) (tgt := 125) dM_isTwo_113 (by decide) (fun c33 => ?_) (fun c33 => ?_)
              · have H := H.1 c33
                obtain ⟨s34, H⟩ := H
                refine wq_iconst (pc := 125) dM_isTwo_125 rfl ?_
                refine wq_istore_n (pc := 126) (lo' := [iR 80, iI x1, iI x2, iI 0, iI x4, iI 0]) dM_isTwo_126 rfl rfl rfl ?_
                refine wq_iinc (pc := 127) (lo' := [iR 80, iI x1, iI x2, iI 0, iI (x4 + 1), iI 0]) dM_isTwo_127 rfl rfl (by rw [show wr (x4 + 1) = x4 + 1 from (Eq.trans (wr_eq (by omega) (by omega)) (by omega))]; rfl) ?_
                refine wq_goto (pc := 130) (tgt := 16) dM_isTwo_130 (by decide) ?_
                refine wq_drop [5] (lo' := [iR 80, iI x1, iI x2, iI 0, iI (x4 + 1), none]) rfl ?_
                exact H
              · have H := H.2 c33
                obtain ⟨s35, H⟩ := H
                refine wq_iload (pc := 116) dM_isTwo_116 rfl ?_
                refine wq_if_eq (pc := 118) (tgt := 125) dM_isTwo_118 (by decide) (fun _ => ?_) (fun q => absurd (by decide) q)
                refine wq_iconst (pc := 125) dM_isTwo_125 rfl ?_
                refine wq_istore_n (pc := 126) (lo' := [iR 80, iI x1, iI x2, iI 0, iI x4, iI 0]) dM_isTwo_126 rfl rfl rfl ?_
                refine wq_iinc (pc := 127) (lo' := [iR 80, iI x1, iI x2, iI 0, iI (x4 + 1), iI 0]) dM_isTwo_127 rfl rfl (by rw [show wr (x4 + 1) = x4 + 1 from (Eq.trans (wr_eq (by omega) (by omega)) (by omega))]; rfl) ?_
                refine wq_goto (pc := 130) (tgt := 16) dM_isTwo_130 (by decide) ?_
                refine wq_drop [5] (lo' := [iR 80, iI x1, iI x2, iI 0, iI (x4 + 1), none]) rfl ?_
                exact H
            · have H := H.2 c30
              show Wq 3 0 0 mM_isTwo 97 [iR 80, iI x1, iI x2, iI x3, iI x4, iI 0] [vI 0] M _
              obtain ⟨s36, H⟩ := H
              refine wq_if_eq (pc := 97) (tgt := 125) dM_isTwo_97 (by decide) (fun _ => ?_) (fun q => absurd (by decide) q)
              refine wq_iconst (pc := 125) dM_isTwo_125 rfl ?_
              refine wq_istore_n (pc := 126) (lo' := [iR 80, iI x1, iI x2, iI 0, iI x4, iI 0]) dM_isTwo_126 rfl rfl rfl ?_
              refine wq_iinc (pc := 127) (lo' := [iR 80, iI x1, iI x2, iI 0, iI (x4 + 1), iI 0]) dM_isTwo_127 rfl rfl (by rw [show wr (x4 + 1) = x4 + 1 from (Eq.trans (wr_eq (by omega) (by omega)) (by omega))]; rfl) ?_
              refine wq_goto (pc := 130) (tgt := 16) dM_isTwo_130 (by decide) ?_
              refine wq_drop [5] (lo' := [iR 80, iI x1, iI x2, iI 0, iI (x4 + 1), none]) rfl ?_
              exact H
      · have H := H.2 c24
        refine wq_iconst (pc := 74) dM_isTwo_74 rfl ?_
        refine wq_goto (pc := 75) (tgt := 79) dM_isTwo_75 (by decide) ?_
        refine wq_istore (pc := 79) (lo' := [iR 80, iI x1, iI x2, iI x3, iI x4, iI 1]) dM_isTwo_79 rfl rfl ?_
        refine wq_iload_n (pc := 81) dM_isTwo_81 rfl rfl ?_
        refine wq_if_ne (pc := 82) (tgt := 121) dM_isTwo_82 (by decide) (fun c37 => ?_) (fun c37 => ?_)
        · have H := H.1 c37
          obtain ⟨s38, H⟩ := H
          refine wq_iconst (pc := 121) dM_isTwo_121 rfl ?_
          refine wq_goto (pc := 122) (tgt := 126) dM_isTwo_122 (by decide) ?_
          refine wq_istore_n (pc := 126) (lo' := [iR 80, iI x1, iI x2, iI 1, iI x4, iI 1]) dM_isTwo_126 rfl rfl rfl ?_
          refine wq_iinc (pc := 127) (lo' := [iR 80, iI x1, iI x2, iI 1, iI (x4 + 1), iI 1]) dM_isTwo_127 rfl rfl (by rw [show wr (x4 + 1) = x4 + 1 from (Eq.trans (wr_eq (by omega) (by omega)) (by omega))]; rfl) ?_
          refine wq_goto (pc := 130) (tgt := 16) dM_isTwo_130 (by decide) ?_
          refine wq_drop [5] (lo' := [iR 80, iI x1, iI x2, iI 1, iI (x4 + 1), none]) rfl ?_
          exact H
        · have H := H.2 c37
          refine wq_iload (pc := 85) dM_isTwo_85 rfl ?_
          refine wq_iload_n (pc := 87) dM_isTwo_87 rfl rfl ?_
          refine wq_icmp_eq (pc := 88) (tgt := 125) dM_isTwo_88 (by decide) (fun c39 => ?_) (fun c39 => ?_)
          · have H := H.1 c39
            obtain ⟨s40, H⟩ := H
            refine wq_iconst (pc := 125) dM_isTwo_125 rfl ?_
            refine wq_istore_n (pc := 126) (lo' := [iR 80, iI x1, iI x2, iI 0, iI x4, iI 1]) dM_isTwo_126 rfl rfl rfl ?_
            refine wq_iinc (pc := 127) (lo' := [iR 80, iI x1, iI x2, iI 0, iI (x4 + 1), iI 1]) dM_isTwo_127 rfl rfl (by rw [show wr (x4 + 1) = x4 + 1 from (Eq.trans (wr_eq (by omega) (by omega)) (by omega))]; rfl) ?_
            refine wq_goto (pc := 130) (tgt := 16) dM_isTwo_130 (by decide) ?_
            refine wq_drop [5] (lo' := [iR 80, iI x1, iI x2, iI 0, iI (x4 + 1), none]) rfl ?_
            exact H
          · have H := H.2 c39
            obtain ⟨s41, H⟩ := H
            refine wq_iload_n (pc := 91) dM_isTwo_91 rfl rfl ?_
            refine wq_iload (pc := 92) dM_isTwo_92 rfl ?_
            refine wq_callS (d' := 1) (pc := 94) (as := [vI x2, vI x4]) (rest := []) (lo' := [iI x2, iI x4]) dM_isTwo_94 mO_M_has lS_M_102 rfl rfl rfl rfl rfl rfl ?_
            refine sp_M_has s41 (fun c42 => ?_) (fun c42 => ?_)
            · have H := H.1 c42
              show Wq 3 0 0 mM_isTwo 97 [iR 80, iI x1, iI x2, iI x3, iI x4, iI 1] [vI 1] M _
              obtain ⟨⟨s43, s44⟩, H⟩ := H
              refine wq_if_eq (pc := 97) (tgt := 125) dM_isTwo_97 (by decide) (fun q => absurd q (by decide)) (fun _ => ?_)
              refine wq_aload_n (pc := 100) dM_isTwo_100 rfl rfl ?_
              refine wq_iload (pc := 101) dM_isTwo_101 rfl ?_
              refine wq_iconst (pc := 103) dM_isTwo_103 rfl ?_
              refine wq_callV (d' := 1) (pc := 104) (as := [vI x4, vI 1]) (rest := []) (lo' := [iR 80, iI x4, iI 1]) dM_isTwo_104 mO_M_event2 lV_M_123 sh_80 (by decide) cl_11 rfl rfl rfl rfl rfl rfl ?_
              refine sp_M_event2 (i := (149 + 7 * x4)) (by omega) hS s43 ?_
              show Wq 3 0 0 mM_isTwo 107 [iR 80, iI x1, iI x2, iI x3, iI x4, iI 1] [vI (gI M 81 (149 + 7 * x4))] M _
              refine wq_aload_n (pc := 107) dM_isTwo_107 rfl rfl ?_
              refine wq_iload_n (pc := 108) dM_isTwo_108 rfl rfl ?_
              refine wq_iconst (pc := 109) dM_isTwo_109 rfl ?_
              refine wq_callV (d' := 1) (pc := 110) (as := [vI x1, vI 1]) (rest := [vI (gI M 81 (149 + 7 * x4))]) (lo' := [iR 80, iI x1, iI 1]) dM_isTwo_110 mO_M_event2 lV_M_123 sh_80 (by decide) cl_11 rfl rfl rfl rfl rfl rfl ?_
              refine sp_M_event2 (i := (149 + 7 * x1)) (by omega) hS s44 ?_
              show Wq 3 0 0 mM_isTwo 113 [iR 80, iI x1, iI x2, iI x3, iI x4, iI 1] [vI (gI M 81 (149 + 7 * x1)), vI (gI M 81 (149 + 7 * x4))] M _
              refine wq_icmp_eq (pc := 113) (tgt := 125) dM_isTwo_113 (by decide) (fun c45 => ?_) (fun c45 => ?_)
              · have H := H.1 c45
                obtain ⟨s46, H⟩ := H
                refine wq_iconst (pc := 125) dM_isTwo_125 rfl ?_
                refine wq_istore_n (pc := 126) (lo' := [iR 80, iI x1, iI x2, iI 0, iI x4, iI 1]) dM_isTwo_126 rfl rfl rfl ?_
                refine wq_iinc (pc := 127) (lo' := [iR 80, iI x1, iI x2, iI 0, iI (x4 + 1), iI 1]) dM_isTwo_127 rfl rfl (by rw [show wr (x4 + 1) = x4 + 1 from (Eq.trans (wr_eq (by omega) (by omega)) (by omega))]; rfl) ?_
                refine wq_goto (pc := 130) (tgt := 16) dM_isTwo_130 (by decide) ?_
                refine wq_drop [5] (lo' := [iR 80, iI x1, iI x2, iI 0, iI (x4 + 1), none]) rfl ?_
                exact H
              · have H := H.2 c45
                obtain ⟨s47, H⟩ := H
                refine wq_iload (pc := 116) dM_isTwo_116 rfl ?_
                refine wq_if_eq (pc := 118) (tgt := 125) dM_isTwo_118 (by decide) (fun q => absurd q (by decide)) (fun _ => ?_)
                refine wq_iconst (pc := 121) dM_isTwo_121 rfl ?_
                refine wq_goto (pc := 122) (tgt := 126) dM_isTwo_122 (by decide) ?_
                refine wq_istore_n (pc := 126) (lo' := [iR 80, iI x1, iI x2, iI 1, iI x4, iI 1]) dM_isTwo_126 rfl rfl rfl ?_
                refine wq_iinc (pc := 127) (lo' := [iR 80, iI x1, iI x2, iI 1, iI (x4 + 1), iI 1]) dM_isTwo_127 rfl rfl (by rw [show wr (x4 + 1) = x4 + 1 from (Eq.trans (wr_eq (by omega) (by omega)) (by omega))]; rfl) ?_
                refine wq_goto (pc := 130) (tgt := 16) dM_isTwo_130 (by decide) ?_
                refine wq_drop [5] (lo' := [iR 80, iI x1, iI x2, iI 1, iI (x4 + 1), none]) rfl ?_
                exact H
            · have H := H.2 c42
              show Wq 3 0 0 mM_isTwo 97 [iR 80, iI x1, iI x2, iI x3, iI x4, iI 1] [vI 0] M _
              obtain ⟨s48, H⟩ := H
              refine wq_if_eq (pc := 97) (tgt := 125) dM_isTwo_97 (by decide) (fun _ => ?_) (fun q => absurd (by decide) q)
              refine wq_iconst (pc := 125) dM_isTwo_125 rfl ?_
              refine wq_istore_n (pc := 126) (lo' := [iR 80, iI x1, iI x2, iI 0, iI x4, iI 1]) dM_isTwo_126 rfl rfl rfl ?_
              refine wq_iinc (pc := 127) (lo' := [iR 80, iI x1, iI x2, iI 0, iI (x4 + 1), iI 1]) dM_isTwo_127 rfl rfl (by rw [show wr (x4 + 1) = x4 + 1 from (Eq.trans (wr_eq (by omega) (by omega)) (by omega))]; rfl) ?_
              refine wq_goto (pc := 130) (tgt := 16) dM_isTwo_130 (by decide) ?_
              refine wq_drop [5] (lo' := [iR 80, iI x1, iI x2, iI 0, iI (x4 + 1), none]) rfl ?_
              exact H
set_option maxRecDepth 20000 in
theorem B_M_named_0 {x1 x2 : Int} {M : Mm} {Q : Mm → Option Mv → Prop} (hS : RefOK M) (H : ((x1 = 0 → ((0 ≤ 149 + 7 * x2 ∧ 149 + 7 * x2 < 1993) ∧ Q M (some (vI (gI M 81 (149 + 7 * x2)))))) ∧ (x1 = 1 → ((0 ≤ 151 + 7 * x2 ∧ 151 + 7 * x2 < 1993) ∧ Q M (some (vI (gI M 81 (151 + 7 * x2)))))) ∧ (x1 = 2 → (((0 ≤ 148 + 7 * x2 ∧ 148 + 7 * x2 < 1993) ∧ (0 ≤ 10 + 3 * gI M 81 (148 + 7 * x2) ∧ 10 + 3 * gI M 81 (148 + 7 * x2) < 1993)) ∧ Q M (some (vI (gI M 81 (10 + 3 * gI M 81 (148 + 7 * x2))))))) ∧ (x1 = 3 → ((0 ≤ 152 + 7 * x2 ∧ 152 + 7 * x2 < 1993) ∧ ((0 ≤ gI M 81 (152 + 7 * x2) → (((0 ≤ 152 + 7 * x2 ∧ 152 + 7 * x2 < 1993) ∧ (0 ≤ 150 + 7 * x2 ∧ 150 + 7 * x2 < 1993) ∧ (-2147483648 ≤ gI M 81 (152 + 7 * x2) - gI M 81 (150 + 7 * x2) ∧ gI M 81 (152 + 7 * x2) - gI M 81 (150 + 7 * x2) < 2147483648)) ∧ Q M (some (vI (gI M 81 (152 + 7 * x2) - gI M 81 (150 + 7 * x2)))))) ∧ (¬ 0 ≤ gI M 81 (152 + 7 * x2) → Q M (some (vI 999)))))) ∧ (x1 = 4 → Wq 3 0 0 mM_isTwo 0 [iR 80, iI x2, none, none, none, none] [] M (fun M' v => Wq 8 0 0 mM_named 95 [iR 80, iI x1, iI x2] (v.toList ++ []) M' Q)) ∧ (¬ x1 = 0 ∧ ¬ x1 = 1 ∧ ¬ x1 = 2 ∧ ¬ x1 = 3 ∧ ¬ x1 = 4 → ((0 ≤ 148 + 7 * x2 ∧ 148 + 7 * x2 < 1993) ∧ Wq 7 0 0 mM_floatOf 0 [iR 80, iI (gI M 81 (148 + 7 * x2))] [] M (fun M' v => Wq 8 0 0 mM_named 114 [iR 80, iI x1, iI x2] (v.toList ++ []) M' Q))))) : Wq 8 0 0 mM_named 0 [iR 80, iI x1, iI x2] [] M Q := by
  refine wq_iload_n (pc := 0) dM_named_0 rfl rfl ?_
  by_cases c1 : x1 = 0
  · refine wq_tabIn (pc := 1) (tgt := 36) dM_named_1 (by rw [c1]; decide) (by rw [c1]; decide) (by rw [c1]; rfl) (by decide) ?_
    have H := H.1 c1
    obtain ⟨s2, H⟩ := H
    refine wq_aload_n (pc := 36) dM_named_36 rfl rfl ?_
    refine wq_iload_n (pc := 37) dM_named_37 rfl rfl ?_
    refine wq_iconst (pc := 38) dM_named_38 rfl ?_
    refine wq_callV (d' := 1) (pc := 39) (as := [vI x2, vI 1]) (rest := []) (lo' := [iR 80, iI x2, iI 1]) dM_named_39 mO_M_event2 lV_M_123 sh_80 (by decide) cl_11 rfl rfl rfl rfl rfl rfl ?_
    refine sp_M_event2 (i := (149 + 7 * x2)) (by omega) hS s2 ?_
    show Wq 8 0 0 mM_named 42 [iR 80, iI x1, iI x2] [vI (gI M 81 (149 + 7 * x2))] M _
    refine wq_ireturn (pc := 42) dM_named_42 trivial ?_
    exact H
  by_cases c3 : x1 = 1
  · refine wq_tabIn (pc := 1) (tgt := 43) dM_named_1 (by rw [c3]; decide) (by rw [c3]; decide) (by rw [c3]; rfl) (by decide) ?_
    have H := H.2.1 c3
    obtain ⟨s4, H⟩ := H
    refine wq_aload_n (pc := 43) dM_named_43 rfl rfl ?_
    refine wq_iload_n (pc := 44) dM_named_44 rfl rfl ?_
    refine wq_iconst (pc := 45) dM_named_45 rfl ?_
    refine wq_callV (d' := 1) (pc := 46) (as := [vI x2, vI 3]) (rest := []) (lo' := [iR 80, iI x2, iI 3]) dM_named_46 mO_M_event2 lV_M_123 sh_80 (by decide) cl_11 rfl rfl rfl rfl rfl rfl ?_
    refine sp_M_event2 (i := (151 + 7 * x2)) (by omega) hS s4 ?_
    show Wq 8 0 0 mM_named 49 [iR 80, iI x1, iI x2] [vI (gI M 81 (151 + 7 * x2))] M _
    refine wq_ireturn (pc := 49) dM_named_49 trivial ?_
    exact H
  by_cases c5 : x1 = 2
  · refine wq_tabIn (pc := 1) (tgt := 50) dM_named_1 (by rw [c5]; decide) (by rw [c5]; decide) (by rw [c5]; rfl) (by decide) ?_
    have H := H.2.2.1 c5
    obtain ⟨⟨s6, s7⟩, H⟩ := H
    refine wq_aload_n (pc := 50) dM_named_50 rfl rfl ?_
    refine wq_aload_n (pc := 51) dM_named_51 rfl rfl ?_
    refine wq_iload_n (pc := 52) dM_named_52 rfl rfl ?_
    refine wq_iconst (pc := 53) dM_named_53 rfl ?_
    refine wq_callV (d' := 1) (pc := 54) (as := [vI x2, vI 0]) (rest := [vR 80]) (lo' := [iR 80, iI x2, iI 0]) dM_named_54 mO_M_event2 lV_M_123 sh_80 (by decide) cl_11 rfl rfl rfl rfl rfl rfl ?_
    refine sp_M_event2 (i := (148 + 7 * x2)) (by omega) hS s6 ?_
    show Wq 8 0 0 mM_named 57 [iR 80, iI x1, iI x2] [vI (gI M 81 (148 + 7 * x2)), vR 80] M _
    refine wq_callV (d' := 1) (pc := 57) (as := [vI (gI M 81 (148 + 7 * x2))]) (rest := []) (lo' := [iR 80, iI (gI M 81 (148 + 7 * x2))]) dM_named_57 mO_M_kindOf lV_M_88 sh_80 (by decide) cl_11 rfl rfl rfl rfl rfl rfl ?_
    refine sp_M_kindOf hS s7 ?_
    show Wq 8 0 0 mM_named 60 [iR 80, iI x1, iI x2] [vI (gI M 81 (10 + 3 * gI M 81 (148 + 7 * x2)))] M _
    refine wq_ireturn (pc := 60) dM_named_60 trivial ?_
    exact H
  by_cases c8 : x1 = 3
  · refine wq_tabIn (pc := 1) (tgt := 61) dM_named_1 (by rw [c8]; decide) (by rw [c8]; decide) (by rw [c8]; rfl) (by decide) ?_
    have H := H.2.2.2.1 c8
    obtain ⟨s9, H⟩ := H
    refine wq_aload_n (pc := 61) dM_named_61 rfl rfl ?_
    refine wq_iload_n (pc := 62) dM_named_62 rfl rfl ?_
    refine wq_iconst (pc := 63) dM_named_63 rfl ?_
    refine wq_callV (d' := 1) (pc := 64) (as := [vI x2, vI 4]) (rest := []) (lo' := [iR 80, iI x2, iI 4]) dM_named_64 mO_M_event2 lV_M_123 sh_80 (by decide) cl_11 rfl rfl rfl rfl rfl rfl ?_
    refine sp_M_event2 (i := (152 + 7 * x2)) (by omega) hS s9 ?_
    show Wq 8 0 0 mM_named 67 [iR 80, iI x1, iI x2] [vI (gI M 81 (152 + 7 * x2))] M _
    refine wq_if_ge (pc := 67) (tgt := 76) dM_named_67 (by decide) (fun c10 => ?_) (fun c10 => ?_)
    · have H := H.1 c10
      obtain ⟨⟨s11, s12, s13⟩, H⟩ := H
      refine wq_aload_n (pc := 76) dM_named_76 rfl rfl ?_
      refine wq_iload_n (pc := 77) dM_named_77 rfl rfl ?_
      refine wq_iconst (pc := 78) dM_named_78 rfl ?_
      refine wq_callV (d' := 1) (pc := 79) (as := [vI x2, vI 4]) (rest := []) (lo' := [iR 80, iI x2, iI 4]) dM_named_79 mO_M_event2 lV_M_123 sh_80 (by decide) cl_11 rfl rfl rfl rfl rfl rfl ?_
      refine sp_M_event2 (i := (152 + 7 * x2)) (by omega) hS s11 ?_
      show Wq 8 0 0 mM_named 82 [iR 80, iI x1, iI x2] [vI (gI M 81 (152 + 7 * x2))] M _
      refine wq_aload_n (pc := 82) dM_named_82 rfl rfl ?_
      refine wq_iload_n (pc := 83) dM_named_83 rfl rfl ?_
      refine wq_iconst (pc := 84) dM_named_84 rfl ?_
      refine wq_callV (d' := 1) (pc := 85) (as := [vI x2, vI 2]) (rest := [vI (gI M 81 (152 + 7 * x2))]) (lo' := [iR 80, iI x2, iI 2]) dM_named_85 mO_M_event2 lV_M_123 sh_80 (by decide) cl_11 rfl rfl rfl rfl rfl rfl ?_
      refine sp_M_event2 (i := (150 + 7 * x2)) (by omega) hS s12 ?_
      show Wq 8 0 0 mM_named 88 [iR 80, iI x1, iI x2] [vI (gI M 81 (150 + 7 * x2)), vI (gI M 81 (152 + 7 * x2))] M _
      refine wq_isub (pc := 88) dM_named_88 ?_
      refine wq_re (x := (wr (gI M 81 (152 + 7 * x2) - gI M 81 (150 + 7 * x2)))) (y := (gI M 81 (152 + 7 * x2) - gI M 81 (150 + 7 * x2))) (Eq.trans (wr_eq (by omega) (by omega)) (by omega)) ?_
      refine wq_ireturn (pc := 89) dM_named_89 trivial ?_
      exact H
    · have H := H.2 c10
      refine wq_sipush (pc := 70) dM_named_70 rfl ?_
      refine wq_goto (pc := 73) (tgt := 89) dM_named_73 (by decide) ?_
      refine wq_ireturn (pc := 89) dM_named_89 trivial ?_
      exact H
  by_cases c14 : x1 = 4
  · refine wq_tabIn (pc := 1) (tgt := 90) dM_named_1 (by rw [c14]; decide) (by rw [c14]; decide) (by rw [c14]; rfl) (by decide) ?_
    have H := H.2.2.2.2.1 c14
    refine wq_aload_n (pc := 90) dM_named_90 rfl rfl ?_
    refine wq_iload_n (pc := 91) dM_named_91 rfl rfl ?_
    refine wq_callV (d' := 3) (pc := 92) (as := [vI x2]) (rest := []) (lo' := [iR 80, iI x2, none, none, none, none]) dM_named_92 mO_M_isTwo lV_M_243 sh_80 (by decide) cl_11 rfl rfl rfl rfl rfl rfl ?_
    exact H
  refine wq_tabOut (pc := 1) (tgt := 104) dM_named_1 (by omega) (by decide) ?_
  have H := H.2.2.2.2.2 (by omega)
  obtain ⟨s16, H⟩ := H
  refine wq_aload_n (pc := 104) dM_named_104 rfl rfl ?_
  refine wq_aload_n (pc := 105) dM_named_105 rfl rfl ?_
  refine wq_iload_n (pc := 106) dM_named_106 rfl rfl ?_
  refine wq_iconst (pc := 107) dM_named_107 rfl ?_
  refine wq_callV (d' := 1) (pc := 108) (as := [vI x2, vI 0]) (rest := [vR 80]) (lo' := [iR 80, iI x2, iI 0]) dM_named_108 mO_M_event2 lV_M_123 sh_80 (by decide) cl_11 rfl rfl rfl rfl rfl rfl ?_
  refine sp_M_event2 (i := (148 + 7 * x2)) (by omega) hS s16 ?_
  show Wq 8 0 0 mM_named 111 [iR 80, iI x1, iI x2] [vI (gI M 81 (148 + 7 * x2)), vR 80] M _
  refine wq_callV (d' := 7) (pc := 111) (as := [vI (gI M 81 (148 + 7 * x2))]) (rest := []) (lo' := [iR 80, iI (gI M 81 (148 + 7 * x2))]) dM_named_111 mO_M_floatOf lV_M_246 sh_80 (by decide) cl_11 rfl rfl rfl rfl rfl rfl ?_
  exact H

set_option maxRecDepth 20000 in
theorem B_M_named_95 {x1 x2 y0 : Int} {M : Mm} {Q : Mm → Option Mv → Prop} (H : ((y0 = 0 → Q M (some (vI 0))) ∧ (¬ y0 = 0 → Q M (some (vI 1))))) : Wq 8 0 0 mM_named 95 [iR 80, iI x1, iI x2] [vI y0] M Q := by
  refine wq_if_eq (pc := 95) (tgt := 102) dM_named_95 (by decide) (fun c1 => ?_) (fun c1 => ?_)
  · have H := H.1 c1
    refine wq_iconst (pc := 102) dM_named_102 rfl ?_
    refine wq_ireturn (pc := 103) dM_named_103 trivial ?_
    exact H
  · have H := H.2 c1
    refine wq_iconst (pc := 98) dM_named_98 rfl ?_
    refine wq_goto (pc := 99) (tgt := 103) dM_named_99 (by decide) ?_
    refine wq_ireturn (pc := 103) dM_named_103 trivial ?_
    exact H

set_option maxRecDepth 20000 in
theorem B_M_named_114 {x1 x2 y0 : Int} {M : Mm} {Q : Mm → Option Mv → Prop} (H : Q M (some (vI y0))) : Wq 8 0 0 mM_named 114 [iR 80, iI x1, iI x2] [vI y0] M Q := by
  refine wq_ireturn (pc := 114) dM_named_114 trivial ?_
  exact H
set_option maxRecDepth 20000 in
theorem B_M_done_0 {x0 x1 x2 : Int} {M : Mm} {Q : Mm → Option Mv → Prop} (H : ((x0 = 20000 → ((¬ x1 = 0 → Q M (some (vI 1))) ∧ (x1 = 0 → ((x2 = 0 → Q M (some (vI 0))) ∧ (¬ x2 = 0 → Q M (some (vI 1))))))) ∧ (x0 = 20001 → ((x1 = 0 → Q M (some (vI 0))) ∧ (¬ x1 = 0 → ((x2 = 0 → Q M (some (vI 0))) ∧ (¬ x2 = 0 → Q M (some (vI 1))))))) ∧ (x0 = 20002 → ((x2 ≤ x1 → Q M (some (vI 0))) ∧ (¬ x2 ≤ x1 → Q M (some (vI 1))))) ∧ (x0 = 20003 → ((¬ x1 = x2 → Q M (some (vI 0))) ∧ (x1 = x2 → Q M (some (vI 1))))) ∧ (x0 = 20004 → ((x1 ≤ x2 → Q M (some (vI 0))) ∧ (¬ x1 ≤ x2 → Q M (some (vI 1))))) ∧ (x0 = 20005 → Q M (some (vI (wr (x1 + x2))))) ∧ (x0 = 20006 → Q M (some (vI (wr (x1 - x2))))) ∧ (x0 = 20007 → Q M (some (vI (wr (x1 * x2))))) ∧ (¬ x0 = 20000 ∧ ¬ x0 = 20001 ∧ ¬ x0 = 20002 ∧ ¬ x0 = 20003 ∧ ¬ x0 = 20004 ∧ ¬ x0 = 20005 ∧ ¬ x0 = 20006 ∧ ¬ x0 = 20007 → ((¬ x2 = 0 → (¬ x2 = 0 ∧ Q M (some (vI (wr (Int.tdiv x1 x2)))))) ∧ (x2 = 0 → Q M (some (vI 0))))))) : Wq 1 0 0 mM_done 0 [iI x0, iI x1, iI x2] [] M Q := by
  refine wq_iload_n (pc := 0) dM_done_0 rfl rfl ?_
  by_cases c1 : x0 = 20000
  · refine wq_tabIn (pc := 1) (tgt := 48) dM_done_1 (by rw [c1]; decide) (by rw [c1]; decide) (by rw [c1]; rfl) (by decide) ?_
    have H := H.1 c1
    refine wq_iload_n (pc := 48) dM_done_48 rfl rfl ?_
    refine wq_if_ne (pc := 49) (tgt := 56) dM_done_49 (by decide) (fun c2 => ?_) (fun c2 => ?_)
    · have H := H.1 c2
      refine wq_iconst (pc := 56) dM_done_56 rfl ?_
      refine wq_goto (pc := 57) (tgt := 61) dM_done_57 (by decide) ?_
      refine wq_ireturn (pc := 61) dM_done_61 trivial ?_
      exact H
    · have H := H.2 c2
      refine wq_iload_n (pc := 52) dM_done_52 rfl rfl ?_
      refine wq_if_eq (pc := 53) (tgt := 60) dM_done_53 (by decide) (fun c3 => ?_) (fun c3 => ?_)
      · have H := H.1 c3
        refine wq_iconst (pc := 60) dM_done_60 rfl ?_
        refine wq_ireturn (pc := 61) dM_done_61 trivial ?_
        exact H
      · have H := H.2 c3
        refine wq_iconst (pc := 56) dM_done_56 rfl ?_
        refine wq_goto (pc := 57) (tgt := 61) dM_done_57 (by decide) ?_
        refine wq_ireturn (pc := 61) dM_done_61 trivial ?_
        exact H
  by_cases c4 : x0 = 20001
  · refine wq_tabIn (pc := 1) (tgt := 62) dM_done_1 (by rw [c4]; decide) (by rw [c4]; decide) (by rw [c4]; rfl) (by decide) ?_
    have H := H.2.1 c4
    refine wq_iload_n (pc := 62) dM_done_62 rfl rfl ?_
    refine wq_if_eq (pc := 63) (tgt := 74) dM_done_63 (by decide) (fun c5 => ?_) (fun c5 => ?_)
    · have H := H.1 c5
      refine wq_iconst (pc := 74) dM_done_74 rfl ?_
      refine wq_ireturn (pc := 75) dM_done_75 trivial ?_
      exact H
    · have H := H.2 c5
      refine wq_iload_n (pc := 66) dM_done_66 rfl rfl ?_
      refine wq_if_eq (pc := 67) (tgt := 74) dM_done_67 (by decide) (fun c6 => ?_) (fun c6 => ?_)
      · have H := H.1 c6
        refine wq_iconst (pc := 74) dM_done_74 rfl ?_
        refine wq_ireturn (pc := 75) dM_done_75 trivial ?_
        exact H
      · have H := H.2 c6
        refine wq_iconst (pc := 70) dM_done_70 rfl ?_
        refine wq_goto (pc := 71) (tgt := 75) dM_done_71 (by decide) ?_
        refine wq_ireturn (pc := 75) dM_done_75 trivial ?_
        exact H
  by_cases c7 : x0 = 20002
  · refine wq_tabIn (pc := 1) (tgt := 76) dM_done_1 (by rw [c7]; decide) (by rw [c7]; decide) (by rw [c7]; rfl) (by decide) ?_
    have H := H.2.2.1 c7
    refine wq_iload_n (pc := 76) dM_done_76 rfl rfl ?_
    refine wq_iload_n (pc := 77) dM_done_77 rfl rfl ?_
    refine wq_icmp_ge (pc := 78) (tgt := 85) dM_done_78 (by decide) (fun c8 => ?_) (fun c8 => ?_)
    · have H := H.1 c8
      refine wq_iconst (pc := 85) dM_done_85 rfl ?_
      refine wq_ireturn (pc := 86) dM_done_86 trivial ?_
      exact H
    · have H := H.2 c8
      refine wq_iconst (pc := 81) dM_done_81 rfl ?_
      refine wq_goto (pc := 82) (tgt := 86) dM_done_82 (by decide) ?_
      refine wq_ireturn (pc := 86) dM_done_86 trivial ?_
      exact H
  by_cases c9 : x0 = 20003
  · refine wq_tabIn (pc := 1) (tgt := 87) dM_done_1 (by rw [c9]; decide) (by rw [c9]; decide) (by rw [c9]; rfl) (by decide) ?_
    have H := H.2.2.2.1 c9
    refine wq_iload_n (pc := 87) dM_done_87 rfl rfl ?_
    refine wq_iload_n (pc := 88) dM_done_88 rfl rfl ?_
    refine wq_icmp_ne (pc := 89) (tgt := 96) dM_done_89 (by decide) (fun c10 => ?_) (fun c10 => ?_)
    · have H := H.1 c10
      refine wq_iconst (pc := 96) dM_done_96 rfl ?_
      refine wq_ireturn (pc := 97) dM_done_97 trivial ?_
      exact H
    · have H := H.2 c10
      refine wq_iconst (pc := 92) dM_done_92 rfl ?_
      refine wq_goto (pc := 93) (tgt := 97) dM_done_93 (by decide) ?_
      refine wq_ireturn (pc := 97) dM_done_97 trivial ?_
      exact H
  by_cases c11 : x0 = 20004
  · refine wq_tabIn (pc := 1) (tgt := 98) dM_done_1 (by rw [c11]; decide) (by rw [c11]; decide) (by rw [c11]; rfl) (by decide) ?_
    have H := H.2.2.2.2.1 c11
    refine wq_iload_n (pc := 98) dM_done_98 rfl rfl ?_
    refine wq_iload_n (pc := 99) dM_done_99 rfl rfl ?_
    refine wq_icmp_le (pc := 100) (tgt := 107) dM_done_100 (by decide) (fun c12 => ?_) (fun c12 => ?_)
    · have H := H.1 c12
      refine wq_iconst (pc := 107) dM_done_107 rfl ?_
      refine wq_ireturn (pc := 108) dM_done_108 trivial ?_
      exact H
    · have H := H.2 c12
      refine wq_iconst (pc := 103) dM_done_103 rfl ?_
      refine wq_goto (pc := 104) (tgt := 108) dM_done_104 (by decide) ?_
      refine wq_ireturn (pc := 108) dM_done_108 trivial ?_
      exact H
  by_cases c13 : x0 = 20005
  · refine wq_tabIn (pc := 1) (tgt := 109) dM_done_1 (by rw [c13]; decide) (by rw [c13]; decide) (by rw [c13]; rfl) (by decide) ?_
    have H := H.2.2.2.2.2.1 c13
    refine wq_iload_n (pc := 109) dM_done_109 rfl rfl ?_
    refine wq_iload_n (pc := 110) dM_done_110 rfl rfl ?_
    refine wq_iadd (pc := 111) dM_done_111 ?_
    refine wq_ireturn (pc := 112) dM_done_112 trivial ?_
    exact H
  by_cases c14 : x0 = 20006
  · refine wq_tabIn (pc := 1) (tgt := 113) dM_done_1 (by rw [c14]; decide) (by rw [c14]; decide) (by rw [c14]; rfl) (by decide) ?_
    have H := H.2.2.2.2.2.2.1 c14
    refine wq_iload_n (pc := 113) dM_done_113 rfl rfl ?_
    refine wq_iload_n (pc := 114) dM_done_114 rfl rfl ?_
    refine wq_isub (pc := 115) dM_done_115 ?_
    refine wq_ireturn (pc := 116) dM_done_116 trivial ?_
    exact H
  by_cases c15 : x0 = 20007
  · refine wq_tabIn (pc := 1) (tgt := 117) dM_done_1 (by rw [c15]; decide) (by rw [c15]; decide) (by rw [c15]; rfl) (by decide) ?_
    have H := H.2.2.2.2.2.2.2.1 c15
    refine wq_iload_n (pc := 117) dM_done_117 rfl rfl ?_
    refine wq_iload_n (pc := 118) dM_done_118 rfl rfl ?_
    refine wq_imul (pc := 119) dM_done_119 ?_
    refine wq_ireturn (pc := 120) dM_done_120 trivial ?_
    exact H
  refine wq_tabOut (pc := 1) (tgt := 121) dM_done_1 (by omega) (by decide) ?_
  have H := H.2.2.2.2.2.2.2.2 (by omega)
  refine wq_iload_n (pc := 121) dM_done_121 rfl rfl ?_
  refine wq_if_ne (pc := 122) (tgt := 129) dM_done_122 (by decide) (fun c17 => ?_) (fun c17 => ?_)
  · have H := H.1 c17
    obtain ⟨s18, H⟩ := H
    refine wq_iload_n (pc := 129) dM_done_129 rfl rfl ?_
    refine wq_iload_n (pc := 130) dM_done_130 rfl rfl ?_
    refine wq_idiv (pc := 131) dM_done_131 s18 ?_
    refine wq_ireturn (pc := 132) dM_done_132 trivial ?_
    exact H
  · have H := H.2 c17
    refine wq_iconst (pc := 125) dM_done_125 rfl ?_
    refine wq_goto (pc := 126) (tgt := 132) dM_done_126 (by decide) ?_
    refine wq_ireturn (pc := 132) dM_done_132 trivial ?_
    exact H
set_option maxRecDepth 20000 in
theorem B_M_worked_0 {x1 x2 : Int} {M : Mm} {Q : Mm → Option Mv → Prop} (H : ((-2147483648 ≤ 288 + 73 * x1 ∧ 288 + 73 * x1 < 2147483648) ∧ Wq 9 0 0 mM_worked 15 [iR 80, iI x1, iI x2, iI (288 + 73 * x1), iI 0, iI 0, none] [] M Q)) : Wq 9 0 0 mM_worked 0 [iR 80, iI x1, iI x2, none, none, none, none] [] M Q := by
  obtain ⟨s1, H⟩ := H
  refine wq_sipush (pc := 0) dM_worked_0 rfl ?_
  refine wq_bipush (pc := 3) dM_worked_3 rfl ?_
  refine wq_iload_n (pc := 5) dM_worked_5 rfl rfl ?_
  refine wq_imul (pc := 6) dM_worked_6 ?_
  refine wq_iadd (pc := 7) dM_worked_7 ?_
  refine wq_re (x := (wr (288 + wr (73 * x1)))) (y := (288 + 73 * x1)) (by (try simp only [wr_al, wr_ar, wr_sl, wr_sr, wr_ml, wr_mr, wr_nn, wr_ww]); exact Eq.trans (wr_eq (by omega) (by omega)) (by omega)) ?_
  refine wq_istore_n (pc := 8) (lo' := [iR 80, iI x1, iI x2, iI (288 + 73 * x1), none, none, none]) dM_worked_8 rfl rfl rfl ?_
  refine wq_iconst (pc := 9) dM_worked_9 rfl ?_
  refine wq_istore (pc := 10) (lo' := [iR 80, iI x1, iI x2, iI (288 + 73 * x1), iI 0, none, none]) dM_worked_10 rfl rfl ?_
  refine wq_iconst (pc := 12) dM_worked_12 rfl ?_
  refine wq_istore (pc := 13) (lo' := [iR 80, iI x1, iI x2, iI (288 + 73 * x1), iI 0, iI 0, none]) dM_worked_13 rfl rfl ?_
  exact H

set_option maxRecDepth 20000 in
theorem B_M_worked_15 {x1 x2 x3 x4 x5 : Int} {M : Mm} {Q : Mm → Option Mv → Prop} (hS : RefOK M) (H : ((0 ≤ x3 + 2 ∧ x3 + 2 < 1993) ∧ ((gI M 81 (x3 + 2) ≤ x5 → Q M (some (vI (gI M 95 0)))) ∧ (¬ gI M 81 (x3 + 2) ≤ x5 → ((0 ≤ x3 + 3 + x5 ∧ x3 + 3 + x5 < 1993) ∧ ((20000 ≤ gI M 81 (x3 + 3 + x5) → ((¬ gI M 81 (x3 + 3 + x5) = 20009 → (((-2147483648 ≤ x4 - 1 ∧ x4 - 1 < 2147483648) ∧ (0 ≤ x4 - 2 ∧ x4 - 2 < 70) ∧ (0 ≤ x4 - 1 ∧ x4 - 1 < 70)) ∧ Wq 1 0 0 mM_done 0 [iI (gI M 81 (x3 + 3 + x5)), iI (gI M 95 (x4 - 2)), iI (gI M 95 (x4 - 1))] [] M (fun M' v => Wq 9 0 0 mM_worked 155 [iR 80, iI x1, iI x2, iI x3, iI (x4 - 1), iI x5, iI (gI M 81 (x3 + 3 + x5))] (v.toList ++ [vI (wr (x4 - 1 - 1)), vR 95]) M' Q))) ∧ (gI M 81 (x3 + 3 + x5) = 20009 → ((0 ≤ x4 - 1 ∧ x4 - 1 < 70) ∧ ((¬ gI M 95 (x4 - 1) = 0 → ((-2147483648 ≤ x5 + 1 ∧ x5 + 1 < 2147483648) ∧ Wq 9 0 0 mM_worked 15 [iR 80, iI x1, iI x2, iI x3, iI x4, iI (x5 + 1), none] [] (sI M 95 (x4 - 1) 0) Q)) ∧ (gI M 95 (x4 - 1) = 0 → ((-2147483648 ≤ x5 + 1 ∧ x5 + 1 < 2147483648) ∧ Wq 9 0 0 mM_worked 15 [iR 80, iI x1, iI x2, iI x3, iI x4, iI (x5 + 1), none] [] (sI M 95 (x4 - 1) 1) Q))))))) ∧ (¬ 20000 ≤ gI M 81 (x3 + 3 + x5) → ((10000 ≤ gI M 81 (x3 + 3 + x5) → ((-2147483648 ≤ gI M 81 (x3 + 3 + x5) - 10000 ∧ gI M 81 (x3 + 3 + x5) - 10000 < 2147483648) ∧ Wq 8 0 0 mM_named 0 [iR 80, iI (gI M 81 (x3 + 3 + x5) - 10000), iI x2] [] M (fun M' v => Wq 9 0 0 mM_worked 79 [iR 80, iI x1, iI x2, iI x3, iI x4, iI x5, iI (gI M 81 (x3 + 3 + x5))] (v.toList ++ [vI x4, vR 95]) M' Q))) ∧ (¬ 10000 ≤ gI M 81 (x3 + 3 + x5) → (((0 ≤ x4 ∧ x4 < 70) ∧ (-2147483648 ≤ x4 + 1 ∧ x4 + 1 < 2147483648) ∧ (-2147483648 ≤ x5 + 1 ∧ x5 + 1 < 2147483648)) ∧ Wq 9 0 0 mM_worked 15 [iR 80, iI x1, iI x2, iI x3, iI (x4 + 1), iI (x5 + 1), none] [] (sI M 95 x4 (gI M 81 (x3 + 3 + x5))) Q)))))))))) : Wq 9 0 0 mM_worked 15 [iR 80, iI x1, iI x2, iI x3, iI x4, iI x5, none] [] M Q := by
  obtain ⟨s1, H⟩ := H
  refine wq_iload (pc := 15) dM_worked_15 rfl ?_
  refine wq_aload_n (pc := 17) dM_worked_17 rfl rfl ?_
  refine wq_getR (pc := 18) (z := 0) (b := 81) dM_worked_18 fO_M_9 sh_80 rfl rfl (rf_80_0 hS) ?_
  refine wq_iload_n (pc := 21) dM_worked_21 rfl rfl ?_
  refine wq_iconst (pc := 22) dM_worked_22 rfl ?_
  refine wq_iadd (pc := 23) dM_worked_23 ?_
  refine wq_re (x := (wr (x3 + 2))) (y := (x3 + 2)) (Eq.trans (wr_eq (by omega) (by omega)) (by omega)) ?_
  refine wq_iald (pc := 24) dM_worked_24 sh_81 s1.1 s1.2 ?_
  refine wq_icmp_ge (pc := 25) (tgt := 162) dM_worked_25 (by decide) (fun c2 => ?_) (fun c2 => ?_)
  · have H := H.1 c2
    refine wq_aload_n (pc := 162) dM_worked_162 rfl rfl ?_
    refine wq_getR (pc := 163) (z := 21) (b := 95) dM_worked_163 fO_M_52 sh_80 rfl rfl (rf_80_21 hS) ?_
    refine wq_iconst (pc := 166) dM_worked_166 rfl ?_
    refine wq_iald (pc := 167) dM_worked_167 sh_95 (by decide) (by decide) ?_
    refine wq_ireturn (pc := 168) dM_worked_168 trivial ?_
    exact H
  · have H := H.2 c2
    obtain ⟨s3, H⟩ := H
    refine wq_aload_n (pc := 28) dM_worked_28 rfl rfl ?_
    refine wq_getR (pc := 29) (z := 0) (b := 81) dM_worked_29 fO_M_9 sh_80 rfl rfl (rf_80_0 hS) ?_
    refine wq_iload_n (pc := 32) dM_worked_32 rfl rfl ?_
    refine wq_iconst (pc := 33) dM_worked_33 rfl ?_
    refine wq_iadd (pc := 34) dM_worked_34 ?_
    refine wq_iload (pc := 35) dM_worked_35 rfl ?_
    refine wq_iadd (pc := 37) dM_worked_37 ?_
    refine wq_re (x := (wr (wr (x3 + 3) + x5))) (y := (x3 + 3 + x5)) (by (try simp only [wr_al, wr_ar, wr_sl, wr_sr, wr_ml, wr_mr, wr_nn, wr_ww]); exact Eq.trans (wr_eq (by omega) (by omega)) (by omega)) ?_
    refine wq_iald (pc := 38) dM_worked_38 sh_81 s3.1 s3.2 ?_
    refine wq_istore (pc := 39) (lo' := [iR 80, iI x1, iI x2, iI x3, iI x4, iI x5, iI (gI M 81 (x3 + 3 + x5))]) dM_worked_39 rfl rfl ?_
    refine wq_iload (pc := 41) dM_worked_41 rfl ?_
    refine wq_sipush (pc := 43) dM_worked_43 rfl ?_
    refine wq_icmp_ge (pc := 46) (tgt := 86) dM_worked_46 (by decide) (fun c4 => ?_) (fun c4 => ?_)
    · have H := H.1 c4
      refine wq_iload (pc := 86) dM_worked_86 rfl ?_
      refine wq_sipush (pc := 88) dM_worked_88 rfl ?_
      refine wq_icmp_ne (pc := 91) (tgt := 123) dM_worked_91 (by decide) (fun c5 => ?_) (fun c5 => ?_)
      · have H := H.1 c5
        obtain ⟨⟨s6, s7, s8⟩, H⟩ := H
        refine wq_iinc (pc := 123) (lo' := [iR 80, iI x1, iI x2, iI x3, iI (x4 - 1), iI x5, iI (gI M 81 (x3 + 3 + x5))]) dM_worked_123 rfl rfl (by rw [show wr (x4 + (-1)) = x4 - 1 from (Eq.trans (wr_eq (by omega) (by omega)) (by omega))]; rfl) ?_
        refine wq_aload_n (pc := 126) dM_worked_126 rfl rfl ?_
        refine wq_getR (pc := 127) (z := 21) (b := 95) dM_worked_127 fO_M_52 sh_80 rfl rfl (rf_80_21 hS) ?_
        refine wq_iload (pc := 130) dM_worked_130 rfl ?_
        refine wq_iconst (pc := 132) dM_worked_132 rfl ?_
        refine wq_isub (pc := 133) dM_worked_133 ?_
        refine wq_iload (pc := 134) dM_worked_134 rfl ?_
        refine wq_aload_n (pc := 136) dM_worked_136 rfl rfl ?_
        refine wq_getR (pc := 137) (z := 21) (b := 95) dM_worked_137 fO_M_52 sh_80 rfl rfl (rf_80_21 hS) ?_
        refine wq_iload (pc := 140) dM_worked_140 rfl ?_
        refine wq_iconst (pc := 142) dM_worked_142 rfl ?_
        refine wq_isub (pc := 143) dM_worked_143 ?_
        refine wq_re (x := (wr (x4 - 1 - 1))) (y := (x4 - 2)) (Eq.trans (wr_eq (by omega) (by omega)) (by omega)) ?_
        refine wq_iald (pc := 144) dM_worked_144 sh_95 s7.1 s7.2 ?_
        refine wq_aload_n (pc := 145) dM_worked_145 rfl rfl ?_
        refine wq_getR (pc := 146) (z := 21) (b := 95) dM_worked_146 fO_M_52 sh_80 rfl rfl (rf_80_21 hS) ?_
        refine wq_iload (pc := 149) dM_worked_149 rfl ?_
        refine wq_iald (pc := 151) dM_worked_151 sh_95 s8.1 s8.2 ?_
        refine wq_callS (d' := 1) (pc := 152) (as := [vI (gI M 81 (x3 + 3 + x5)), vI (gI M 95 (x4 - 2)), vI (gI M 95 (x4 - 1))]) (rest := [vI (wr (x4 - 1 - 1)), vR 95]) (lo' := [iI (gI M 81 (x3 + 3 + x5)), iI (gI M 95 (x4 - 2)), iI (gI M 95 (x4 - 1))]) dM_worked_152 mO_M_done lS_M_252 rfl rfl rfl rfl rfl rfl ?_
        exact H
      · have H := H.2 c5
        obtain ⟨s9, H⟩ := H
        refine wq_aload_n (pc := 94) dM_worked_94 rfl rfl ?_
        refine wq_getR (pc := 95) (z := 21) (b := 95) dM_worked_95 fO_M_52 sh_80 rfl rfl (rf_80_21 hS) ?_
        refine wq_iload (pc := 98) dM_worked_98 rfl ?_
        refine wq_iconst (pc := 100) dM_worked_100 rfl ?_
        refine wq_isub (pc := 101) dM_worked_101 ?_
        refine wq_aload_n (pc := 102) dM_worked_102 rfl rfl ?_
        refine wq_getR (pc := 103) (z := 21) (b := 95) dM_worked_103 fO_M_52 sh_80 rfl rfl (rf_80_21 hS) ?_
        refine wq_iload (pc := 106) dM_worked_106 rfl ?_
        refine wq_iconst (pc := 108) dM_worked_108 rfl ?_
        refine wq_isub (pc := 109) dM_worked_109 ?_
        refine wq_re (x := (wr (x4 - 1))) (y := (x4 - 1)) (Eq.trans (wr_eq (by omega) (by omega)) (by omega)) ?_
        refine wq_iald (pc := 110) dM_worked_110 sh_95 s9.1 s9.2 ?_
        refine wq_if_ne (pc := 111) (tgt := 118) dM_worked_111 (by decide) (fun c10 => ?_) (fun c10 => ?_)
        · have H := H.1 c10
          obtain ⟨s11, H⟩ := H
          refine wq_iconst (pc := 118) dM_worked_118 rfl ?_
          refine wq_re2 (x := (wr (x4 - 1))) (y := (x4 - 1)) (Eq.trans (wr_eq (by omega) (by omega)) (by omega)) ?_
          refine wq_iast (pc := 119) dM_worked_119 sh_95 (by decide) s9.1 s9.2 ?_
          refine wq_goto (pc := 120) (tgt := 156) dM_worked_120 (by decide) ?_
          refine wq_iinc (pc := 156) (lo' := [iR 80, iI x1, iI x2, iI x3, iI x4, iI (x5 + 1), iI (gI M 81 (x3 + 3 + x5))]) dM_worked_156 rfl rfl (by rw [show wr (x5 + 1) = x5 + 1 from (Eq.trans (wr_eq (by omega) (by omega)) (by omega))]; rfl) ?_
          refine wq_goto (pc := 159) (tgt := 15) dM_worked_159 (by decide) ?_
          refine wq_drop [6] (lo' := [iR 80, iI x1, iI x2, iI x3, iI x4, iI (x5 + 1), none]) rfl ?_
          exact H
        · have H := H.2 c10
          obtain ⟨s12, H⟩ := H
          refine wq_iconst (pc := 114) dM_worked_114 rfl ?_
          refine wq_goto (pc := 115) (tgt := 119) dM_worked_115 (by decide) ?_
          refine wq_re2 (x := (wr (x4 - 1))) (y := (x4 - 1)) (Eq.trans (wr_eq (by omega) (by omega)) (by omega)) ?_
          refine wq_iast (pc := 119) dM_worked_119 sh_95 (by decide) s9.1 s9.2 ?_
          refine wq_goto (pc := 120) (tgt := 156) dM_worked_120 (by decide) ?_
          refine wq_iinc (pc := 156) (lo' := [iR 80, iI x1, iI x2, iI x3, iI x4, iI (x5 + 1), iI (gI M 81 (x3 + 3 + x5))]) dM_worked_156 rfl rfl (by rw [show wr (x5 + 1) = x5 + 1 from (Eq.trans (wr_eq (by omega) (by omega)) (by omega))]; rfl) ?_
          refine wq_goto (pc := 159) (tgt := 15) dM_worked_159 (by decide) ?_
          refine wq_drop [6] (lo' := [iR 80, iI x1, iI x2, iI x3, iI x4, iI (x5 + 1), none]) rfl ?_
          exact H
    · have H := H.2 c4
      refine wq_aload_n (pc := 49) dM_worked_49 rfl rfl ?_
      refine wq_getR (pc := 50) (z := 21) (b := 95) dM_worked_50 fO_M_52 sh_80 rfl rfl (rf_80_21 hS) ?_
      refine wq_iload (pc := 53) dM_worked_53 rfl ?_
      refine wq_iload (pc := 55) dM_worked_55 rfl ?_
      refine wq_sipush (pc := 57) dM_worked_57 rfl ?_
      refine wq_icmp_ge (pc := 60) (tgt := 68) dM_worked_60 (by decide) (fun c13 => ?_) (fun c13 => ?_)
      · have H := H.1 c13
        obtain ⟨s14, H⟩ := H
        refine wq_aload_n (pc := 68) dM_worked_68 rfl rfl ?_
        refine wq_iload (pc := 69) dM_worked_69 rfl ?_
        refine wq_sipush (pc := 71) dM_worked_71 rfl ?_
        refine wq_isub (pc := 74) dM_worked_74 ?_
        refine wq_iload_n (pc := 75) dM_worked_75 rfl rfl ?_
        refine wq_re2 (x := (wr (gI M 81 (x3 + 3 + x5) - 10000))) (y := (gI M 81 (x3 + 3 + x5) - 10000)) (Eq.trans (wr_eq (by omega) (by omega)) (by omega)) ?_
        refine wq_callV (d' := 8) (pc := 76) (as := [vI (gI M 81 (x3 + 3 + x5) - 10000), vI x2]) (rest := [vI x4, vR 95]) (lo' := [iR 80, iI (gI M 81 (x3 + 3 + x5) - 10000), iI x2]) dM_worked_76 mO_M_named lV_M_249 sh_80 (by decide) cl_11 rfl rfl rfl rfl rfl rfl ?_
        exact H
      · have H := H.2 c13
        obtain ⟨⟨s15, s16, s17⟩, H⟩ := H
        refine wq_iload (pc := 63) dM_worked_63 rfl ?_
        refine wq_goto (pc := 65) (tgt := 79) dM_worked_65 (by decide) ?_
        refine wq_iast (pc := 79) dM_worked_79 sh_95 (by decide) s15.1 s15.2 ?_
        refine wq_iinc (pc := 80) (lo' := [iR 80, iI x1, iI x2, iI x3, iI (x4 + 1), iI x5, iI (gI M 81 (x3 + 3 + x5))]) dM_worked_80 rfl rfl (by rw [show wr (x4 + 1) = x4 + 1 from (Eq.trans (wr_eq (by omega) (by omega)) (by omega))]; rfl) ?_
        refine wq_goto (pc := 83) (tgt := 156) dM_worked_83 (by decide) ?_
        refine wq_iinc (pc := 156) (lo' := [iR 80, iI x1, iI x2, iI x3, iI (x4 + 1), iI (x5 + 1), iI (gI M 81 (x3 + 3 + x5))]) dM_worked_156 rfl rfl (by rw [show wr (x5 + 1) = x5 + 1 from (Eq.trans (wr_eq (by omega) (by omega)) (by omega))]; rfl) ?_
        refine wq_goto (pc := 159) (tgt := 15) dM_worked_159 (by decide) ?_
        refine wq_drop [6] (lo' := [iR 80, iI x1, iI x2, iI x3, iI (x4 + 1), iI (x5 + 1), none]) rfl ?_
        exact H

set_option maxRecDepth 20000 in
theorem B_M_worked_79 {x1 x2 x3 x4 x5 x6 y0 y1 : Int} {M : Mm} {Q : Mm → Option Mv → Prop} (H : (((0 ≤ y1 ∧ y1 < 70) ∧ (-2147483648 ≤ x4 + 1 ∧ x4 + 1 < 2147483648) ∧ (-2147483648 ≤ x5 + 1 ∧ x5 + 1 < 2147483648)) ∧ Wq 9 0 0 mM_worked 15 [iR 80, iI x1, iI x2, iI x3, iI (x4 + 1), iI (x5 + 1), none] [] (sI M 95 y1 y0) Q)) : Wq 9 0 0 mM_worked 79 [iR 80, iI x1, iI x2, iI x3, iI x4, iI x5, iI x6] [vI y0, vI y1, vR 95] M Q := by
  obtain ⟨⟨s1, s2, s3⟩, H⟩ := H
  refine wq_iast (pc := 79) dM_worked_79 sh_95 (by decide) s1.1 s1.2 ?_
  refine wq_iinc (pc := 80) (lo' := [iR 80, iI x1, iI x2, iI x3, iI (x4 + 1), iI x5, iI x6]) dM_worked_80 rfl rfl (by rw [show wr (x4 + 1) = x4 + 1 from (Eq.trans (wr_eq (by omega) (by omega)) (by omega))]; rfl) ?_
  refine wq_goto (pc := 83) (tgt := 156) dM_worked_83 (by decide) ?_
  refine wq_iinc (pc := 156) (lo' := [iR 80, iI x1, iI x2, iI x3, iI (x4 + 1), iI (x5 + 1), iI x6]) dM_worked_156 rfl rfl (by rw [show wr (x5 + 1) = x5 + 1 from (Eq.trans (wr_eq (by omega) (by omega)) (by omega))]; rfl) ?_
  refine wq_goto (pc := 159) (tgt := 15) dM_worked_159 (by decide) ?_
  refine wq_drop [6] (lo' := [iR 80, iI x1, iI x2, iI x3, iI (x4 + 1), iI (x5 + 1), none]) rfl ?_
  exact H

set_option maxRecDepth 20000 in
theorem B_M_worked_155 {x1 x2 x3 x4 x5 x6 y0 y1 : Int} {M : Mm} {Q : Mm → Option Mv → Prop} (H : (((0 ≤ y1 ∧ y1 < 70) ∧ (-2147483648 ≤ x5 + 1 ∧ x5 + 1 < 2147483648)) ∧ Wq 9 0 0 mM_worked 15 [iR 80, iI x1, iI x2, iI x3, iI x4, iI (x5 + 1), none] [] (sI M 95 y1 y0) Q)) : Wq 9 0 0 mM_worked 155 [iR 80, iI x1, iI x2, iI x3, iI x4, iI x5, iI x6] [vI y0, vI y1, vR 95] M Q := by
  obtain ⟨⟨s1, s2⟩, H⟩ := H
  refine wq_iast (pc := 155) dM_worked_155 sh_95 (by decide) s1.1 s1.2 ?_
  refine wq_iinc (pc := 156) (lo' := [iR 80, iI x1, iI x2, iI x3, iI x4, iI (x5 + 1), iI x6]) dM_worked_156 rfl rfl (by rw [show wr (x5 + 1) = x5 + 1 from (Eq.trans (wr_eq (by omega) (by omega)) (by omega))]; rfl) ?_
  refine wq_goto (pc := 159) (tgt := 15) dM_worked_159 (by decide) ?_
  refine wq_drop [6] (lo' := [iR 80, iI x1, iI x2, iI x3, iI x4, iI (x5 + 1), none]) rfl ?_
  exact H
set_option maxRecDepth 20000 in
theorem B_M_saidOf_0 {x1 x2 : Int} {M : Mm} {Q : Mm → Option Mv → Prop} (H : Wq 2 0 0 mM_forced 0 [iR 80, iI x1, iI x2, none, none, none] [] M (fun M' v => Wq 10 0 0 mM_saidOf 6 [iR 80, iI x1, iI x2, none, none] (v.toList ++ []) M' Q)) : Wq 10 0 0 mM_saidOf 0 [iR 80, iI x1, iI x2, none, none] [] M Q := by
  refine wq_aload_n (pc := 0) dM_saidOf_0 rfl rfl ?_
  refine wq_iload_n (pc := 1) dM_saidOf_1 rfl rfl ?_
  refine wq_iload_n (pc := 2) dM_saidOf_2 rfl rfl ?_
  refine wq_callV (d' := 2) (pc := 3) (as := [vI x1, vI x2]) (rest := []) (lo' := [iR 80, iI x1, iI x2, none, none, none]) dM_saidOf_3 mO_M_forced lV_M_240 sh_80 (by decide) cl_11 rfl rfl rfl rfl rfl rfl ?_
  exact H

set_option maxRecDepth 20000 in
theorem B_M_saidOf_6 {x1 x2 y0 : Int} {M : Mm} {Q : Mm → Option Mv → Prop} (hS : RefOK M) (H : ((0 ≤ y0 → ((¬ x1 = 1 → Wq 9 0 0 mM_worked 0 [iR 80, iI y0, iI x2, none, none, none, none] [] M (fun M' v => Wq 10 0 0 mM_saidOf 69 [iR 80, iI x1, iI x2, iI y0, none] (v.toList ++ [vI 2, vI 0]) M' Q)) ∧ (x1 = 1 → Wq 9 0 0 mM_worked 0 [iR 80, iI y0, iI x2, none, none, none, none] [] M (fun M' v => Wq 10 0 0 mM_saidOf 69 [iR 80, iI x1, iI x2, iI y0, none] (v.toList ++ [vI 9999, vI 0]) M' Q)))) ∧ (¬ 0 ≤ y0 → ((0 ≤ 149 + 7 * x2 ∧ 149 + 7 * x2 < 1993) ∧ ((¬ x1 = 1 → ((¬ gI M 81 (149 + 7 * x2) = 0 → ((¬ gI M 81 (149 + 7 * x2) = 1 → Q M (some (vI 1))) ∧ (gI M 81 (149 + 7 * x2) = 1 → Q M (some (vI 0))))) ∧ (gI M 81 (149 + 7 * x2) = 0 → Q M (some (vI 2))))) ∧ (x1 = 1 → Q M (some (vI 100)))))))) : Wq 10 0 0 mM_saidOf 6 [iR 80, iI x1, iI x2, none, none] [vI y0] M Q := by
  refine wq_istore_n (pc := 6) (lo' := [iR 80, iI x1, iI x2, iI y0, none]) dM_saidOf_6 rfl rfl rfl ?_
  refine wq_iload_n (pc := 7) dM_saidOf_7 rfl rfl ?_
  refine wq_if_ge (pc := 8) (tgt := 50) dM_saidOf_8 (by decide) (fun c1 => ?_) (fun c1 => ?_)
  · have H := H.1 c1
    refine wq_iconst (pc := 50) dM_saidOf_50 rfl ?_
    refine wq_iload_n (pc := 51) dM_saidOf_51 rfl rfl ?_
    refine wq_iconst (pc := 52) dM_saidOf_52 rfl ?_
    refine wq_icmp_ne (pc := 53) (tgt := 62) dM_saidOf_53 (by decide) (fun c2 => ?_) (fun c2 => ?_)
    · have H := H.1 c2
      refine wq_iconst (pc := 62) dM_saidOf_62 rfl ?_
      refine wq_aload_n (pc := 63) dM_saidOf_63 rfl rfl ?_
      refine wq_iload_n (pc := 64) dM_saidOf_64 rfl rfl ?_
      refine wq_iload_n (pc := 65) dM_saidOf_65 rfl rfl ?_
      refine wq_callV (d' := 9) (pc := 66) (as := [vI y0, vI x2]) (rest := [vI 2, vI 0]) (lo' := [iR 80, iI y0, iI x2, none, none, none, none]) dM_saidOf_66 mO_M_worked lV_M_255 sh_80 (by decide) cl_11 rfl rfl rfl rfl rfl rfl ?_
      exact H
    · have H := H.2 c2
      refine wq_sipush (pc := 56) dM_saidOf_56 rfl ?_
      refine wq_goto (pc := 59) (tgt := 63) dM_saidOf_59 (by decide) ?_
      refine wq_aload_n (pc := 63) dM_saidOf_63 rfl rfl ?_
      refine wq_iload_n (pc := 64) dM_saidOf_64 rfl rfl ?_
      refine wq_iload_n (pc := 65) dM_saidOf_65 rfl rfl ?_
      refine wq_callV (d' := 9) (pc := 66) (as := [vI y0, vI x2]) (rest := [vI 9999, vI 0]) (lo' := [iR 80, iI y0, iI x2, none, none, none, none]) dM_saidOf_66 mO_M_worked lV_M_255 sh_80 (by decide) cl_11 rfl rfl rfl rfl rfl rfl ?_
      exact H
  · have H := H.2 c1
    obtain ⟨s3, H⟩ := H
    refine wq_aload_n (pc := 11) dM_saidOf_11 rfl rfl ?_
    refine wq_iload_n (pc := 12) dM_saidOf_12 rfl rfl ?_
    refine wq_iconst (pc := 13) dM_saidOf_13 rfl ?_
    refine wq_callV (d' := 1) (pc := 14) (as := [vI x2, vI 1]) (rest := []) (lo' := [iR 80, iI x2, iI 1]) dM_saidOf_14 mO_M_event2 lV_M_123 sh_80 (by decide) cl_11 rfl rfl rfl rfl rfl rfl ?_
    refine sp_M_event2 (i := (149 + 7 * x2)) (by omega) hS s3 ?_
    show Wq 10 0 0 mM_saidOf 17 [iR 80, iI x1, iI x2, iI y0, none] [vI (gI M 81 (149 + 7 * x2))] M _
    refine wq_istore (pc := 17) (lo' := [iR 80, iI x1, iI x2, iI y0, iI (gI M 81 (149 + 7 * x2))]) dM_saidOf_17 rfl rfl ?_
    refine wq_iload_n (pc := 19) dM_saidOf_19 rfl rfl ?_
    refine wq_iconst (pc := 20) dM_saidOf_20 rfl ?_
    refine wq_icmp_ne (pc := 21) (tgt := 29) dM_saidOf_21 (by decide) (fun c4 => ?_) (fun c4 => ?_)
    · have H := H.1 c4
      refine wq_iload (pc := 29) dM_saidOf_29 rfl ?_
      refine wq_if_ne (pc := 31) (tgt := 38) dM_saidOf_31 (by decide) (fun c5 => ?_) (fun c5 => ?_)
      · have H := H.1 c5
        refine wq_iload (pc := 38) dM_saidOf_38 rfl ?_
        refine wq_iconst (pc := 40) dM_saidOf_40 rfl ?_
        refine wq_icmp_ne (pc := 41) (tgt := 48) dM_saidOf_41 (by decide) (fun c6 => ?_) (fun c6 => ?_)
        · have H := H.1 c6
          refine wq_iconst (pc := 48) dM_saidOf_48 rfl ?_
          refine wq_ireturn (pc := 49) dM_saidOf_49 trivial ?_
          exact H
        · have H := H.2 c6
          refine wq_iconst (pc := 44) dM_saidOf_44 rfl ?_
          refine wq_goto (pc := 45) (tgt := 49) dM_saidOf_45 (by decide) ?_
          refine wq_ireturn (pc := 49) dM_saidOf_49 trivial ?_
          exact H
      · have H := H.2 c5
        refine wq_iconst (pc := 34) dM_saidOf_34 rfl ?_
        refine wq_goto (pc := 35) (tgt := 49) dM_saidOf_35 (by decide) ?_
        refine wq_ireturn (pc := 49) dM_saidOf_49 trivial ?_
        exact H
    · have H := H.2 c4
      refine wq_bipush (pc := 24) dM_saidOf_24 rfl ?_
      refine wq_goto (pc := 26) (tgt := 49) dM_saidOf_26 (by decide) ?_
      refine wq_ireturn (pc := 49) dM_saidOf_49 trivial ?_
      exact H

set_option maxRecDepth 20000 in
theorem B_M_saidOf_69 {x1 x2 x3 y0 y1 y2 : Int} {M : Mm} {Q : Mm → Option Mv → Prop} (H : Q M (some (vI (max y2 (min y1 y0))))) : Wq 10 0 0 mM_saidOf 69 [iR 80, iI x1, iI x2, iI x3, none] [vI y0, vI y1, vI y2] M Q := by
  refine wq_min (pc := 69) dM_saidOf_69 xO_M_258 rfl ?_
  refine wq_max (pc := 72) dM_saidOf_72 xO_M_139 rfl ?_
  refine wq_ireturn (pc := 75) dM_saidOf_75 trivial ?_
  exact H
set_option maxRecDepth 20000 in
theorem B_M_says_0 {x1 x2 : Int} {M : Mm} {Q : Mm → Option Mv → Prop} (hS : RefOK M) (H : ((0 ≤ x1 ∧ x1 ≤ 1 → (0 ≤ gI M 81 4 ∧ ((0 ≤ x2 ∧ x2 < gI M 81 4 → Wq 10 0 0 mM_saidOf 0 [iR 80, iI x1, iI x2, none, none] [] M (fun M' v => Wq 11 0 0 mM_says 25 [iR 80, iI x1, iI x2] (v.toList ++ []) M' Q)) ∧ (¬ (0 ≤ x2 ∧ x2 < gI M 81 4) → Q (sI M 83 1 (wr (gI M 83 1 + 1))) (some (vI (-1000001))))))) ∧ (¬ (0 ≤ x1 ∧ x1 ≤ 1) → Q (sI M 83 1 (wr (gI M 83 1 + 1))) (some (vI (-1000001)))))) : Wq 11 0 0 mM_says 0 [iR 80, iI x1, iI x2] [] M Q := by
  refine wq_iload_n (pc := 0) dM_says_0 rfl rfl ?_
  refine wq_i2l (pc := 1) dM_says_1 ?_
  refine wq_lconst (pc := 2) (x := 0) dM_says_2 rfl rfl ?_
  refine wq_lconst (pc := 3) (x := 1) dM_says_3 rfl rfl ?_
  refine wq_callS (d' := 1) (pc := 4) (as := [vL x1, vL 0, vL 1]) (rest := []) (lo' := [iL x1, none, iL 0, none, iL 1, none]) dM_says_4 mO_M_within lS_M_68 rfl rfl rfl rfl rfl rfl ?_
  refine sp_M_within (fun c1 => ?_) (fun c1 => ?_)
  · have H := H.1 c1
    show Wq 11 0 0 mM_says 7 [iR 80, iI x1, iI x2] [vI 1] M _
    obtain ⟨s2, H⟩ := H
    refine wq_if_eq (pc := 7) (tgt := 28) dM_says_7 (by decide) (fun q => absurd q (by decide)) (fun _ => ?_)
    refine wq_aload_n (pc := 10) dM_says_10 rfl rfl ?_
    refine wq_iload_n (pc := 11) dM_says_11 rfl rfl ?_
    refine wq_iconst (pc := 12) dM_says_12 rfl ?_
    refine wq_callV (d' := 2) (pc := 13) (as := [vI x2, vI 4]) (rest := []) (lo' := [iR 80, iI x2, iI 4]) dM_says_13 mO_M_is lV_M_84 sh_80 (by decide) cl_11 rfl rfl rfl rfl rfl rfl ?_
    refine sp_M_is (c := 4) (by decide) hS s2 (fun c3 => ?_) (fun c3 => ?_)
    · have H := H.1 c3
      show Wq 11 0 0 mM_says 16 [iR 80, iI x1, iI x2] [vI 1] M _
      refine wq_if_eq (pc := 16) (tgt := 28) dM_says_16 (by decide) (fun q => absurd q (by decide)) (fun _ => ?_)
      refine wq_aload_n (pc := 19) dM_says_19 rfl rfl ?_
      refine wq_iload_n (pc := 20) dM_says_20 rfl rfl ?_
      refine wq_iload_n (pc := 21) dM_says_21 rfl rfl ?_
      refine wq_callV (d' := 10) (pc := 22) (as := [vI x1, vI x2]) (rest := []) (lo' := [iR 80, iI x1, iI x2, none, none]) dM_says_22 mO_M_saidOf lV_M_261 sh_80 (by decide) cl_11 rfl rfl rfl rfl rfl rfl ?_
      exact H
    · have H := H.2 c3
      show Wq 11 0 0 mM_says 16 [iR 80, iI x1, iI x2] [vI 0] M _
      refine wq_if_eq (pc := 16) (tgt := 28) dM_says_16 (by decide) (fun _ => ?_) (fun q => absurd (by decide) q)
      refine wq_aload_n (pc := 28) dM_says_28 rfl rfl ?_
      refine wq_ldc (pc := 29) (z := (-1000001)) dM_says_29 kO_M_78 (by decide) ?_
      refine wq_callV (d' := 1) (pc := 31) (as := [vI (-1000001)]) (rest := []) (lo' := [iR 80, iI ((-1000001))]) dM_says_31 mO_M_finding lV_M_79 sh_80 (by decide) cl_11 rfl rfl rfl rfl rfl rfl ?_
      refine sp_M_finding (k := 1) (by decide) (by decide) (by decide) hS ?_
      show Wq 11 0 0 mM_says 34 [iR 80, iI x1, iI x2] [vI (-1000001)] (sI M 83 1 (wr (gI M 83 1 + 1))) _
      refine wq_ireturn (pc := 34) dM_says_34 trivial ?_
      exact H
  · have H := H.2 c1
    show Wq 11 0 0 mM_says 7 [iR 80, iI x1, iI x2] [vI 0] M _
    refine wq_if_eq (pc := 7) (tgt := 28) dM_says_7 (by decide) (fun _ => ?_) (fun q => absurd (by decide) q)
    refine wq_aload_n (pc := 28) dM_says_28 rfl rfl ?_
    refine wq_ldc (pc := 29) (z := (-1000001)) dM_says_29 kO_M_78 (by decide) ?_
    refine wq_callV (d' := 1) (pc := 31) (as := [vI (-1000001)]) (rest := []) (lo' := [iR 80, iI ((-1000001))]) dM_says_31 mO_M_finding lV_M_79 sh_80 (by decide) cl_11 rfl rfl rfl rfl rfl rfl ?_
    refine sp_M_finding (k := 1) (by decide) (by decide) (by decide) hS ?_
    show Wq 11 0 0 mM_says 34 [iR 80, iI x1, iI x2] [vI (-1000001)] (sI M 83 1 (wr (gI M 83 1 + 1))) _
    refine wq_ireturn (pc := 34) dM_says_34 trivial ?_
    exact H

set_option maxRecDepth 20000 in
theorem B_M_says_25 {x1 x2 y0 : Int} {M : Mm} {Q : Mm → Option Mv → Prop} (H : Q M (some (vI y0))) : Wq 11 0 0 mM_says 25 [iR 80, iI x1, iI x2] [vI y0] M Q := by
  refine wq_goto (pc := 25) (tgt := 34) dM_says_25 (by decide) ?_
  refine wq_ireturn (pc := 34) dM_says_34 trivial ?_
  exact H
set_option maxRecDepth 20000 in
theorem B_M_withRisk_0 {x1 : Int} {M : Mm} {Q : Mm → Option Mv → Prop} (hS : RefOK M) (H : Wq 2 0 0 mM_knownOn 0 [iR 80, iI (gI M 81 0), none, none, none] [] M (fun M' v => Wq 11 0 0 mM_withRisk 10 [iR 80, iI x1, none, none, none] (v.toList ++ []) M' Q)) : Wq 11 0 0 mM_withRisk 0 [iR 80, iI x1, none, none, none] [] M Q := by
  refine wq_aload_n (pc := 0) dM_withRisk_0 rfl rfl ?_
  refine wq_aload_n (pc := 1) dM_withRisk_1 rfl rfl ?_
  refine wq_getR (pc := 2) (z := 0) (b := 81) dM_withRisk_2 fO_M_9 sh_80 rfl rfl (rf_80_0 hS) ?_
  refine wq_iconst (pc := 5) dM_withRisk_5 rfl ?_
  refine wq_iald (pc := 6) dM_withRisk_6 sh_81 (by decide) (by decide) ?_
  refine wq_callV (d' := 2) (pc := 7) (as := [vI (gI M 81 0)]) (rest := []) (lo' := [iR 80, iI (gI M 81 0), none, none, none]) dM_withRisk_7 mO_M_knownOn lV_M_132 sh_80 (by decide) cl_11 rfl rfl rfl rfl rfl rfl ?_
  exact H

set_option maxRecDepth 20000 in
theorem B_M_withRisk_10 {x1 y0 : Int} {M : Mm} {Q : Mm → Option Mv → Prop} (H : Wq 11 0 0 mM_withRisk 16 [iR 80, iI x1, iI y0, iI 0, iI 0] [] M Q) : Wq 11 0 0 mM_withRisk 10 [iR 80, iI x1, none, none, none] [vI y0] M Q := by
  refine wq_istore_n (pc := 10) (lo' := [iR 80, iI x1, iI y0, none, none]) dM_withRisk_10 rfl rfl rfl ?_
  refine wq_iconst (pc := 11) dM_withRisk_11 rfl ?_
  refine wq_istore_n (pc := 12) (lo' := [iR 80, iI x1, iI y0, iI 0, none]) dM_withRisk_12 rfl rfl rfl ?_
  refine wq_iconst (pc := 13) dM_withRisk_13 rfl ?_
  refine wq_istore (pc := 14) (lo' := [iR 80, iI x1, iI y0, iI 0, iI 0]) dM_withRisk_14 rfl rfl ?_
  exact H

set_option maxRecDepth 20000 in
theorem B_M_withRisk_16 {x1 x2 x3 x4 : Int} {M : Mm} {Q : Mm → Option Mv → Prop} (hS : RefOK M) (H : ((gI M 81 4 ≤ x4 → Q M (some (vI x3))) ∧ (¬ gI M 81 4 ≤ x4 → ((0 ≤ x2 ∧ x2 < 2147483648 ∧ 0 ≤ x4 ∧ x4 < 32) ∧ ((hb x2 x4 = true → Wq 10 0 0 mM_saidOf 0 [iR 80, iI 0, iI x4, none, none] [] M (fun M' v => Wq 11 0 0 mM_withRisk 44 [iR 80, iI x1, iI x2, iI x3, iI x4] (v.toList ++ [vI x3]) M' Q)) ∧ (¬ (hb x2 x4 = true) → ((-2147483648 ≤ x4 + 1 ∧ x4 + 1 < 2147483648) ∧ Wq 11 0 0 mM_withRisk 16 [iR 80, iI x1, iI x2, iI (bOr x3 0), iI (x4 + 1)] [] M Q))))))) : Wq 11 0 0 mM_withRisk 16 [iR 80, iI x1, iI x2, iI x3, iI x4] [] M Q := by
  refine wq_iload (pc := 16) dM_withRisk_16 rfl ?_
  refine wq_aload_n (pc := 18) dM_withRisk_18 rfl rfl ?_
  refine wq_getR (pc := 19) (z := 0) (b := 81) dM_withRisk_19 fO_M_9 sh_80 rfl rfl (rf_80_0 hS) ?_
  refine wq_iconst (pc := 22) dM_withRisk_22 rfl ?_
  refine wq_iald (pc := 23) dM_withRisk_23 sh_81 (by decide) (by decide) ?_
  refine wq_icmp_ge (pc := 24) (tgt := 64) dM_withRisk_24 (by decide) (fun c1 => ?_) (fun c1 => ?_)
  · have H := H.1 c1
    refine wq_iload_n (pc := 64) dM_withRisk_64 rfl rfl ?_
    refine wq_ireturn (pc := 65) dM_withRisk_65 trivial ?_
    exact H
  · have H := H.2 c1
    obtain ⟨s2, H⟩ := H
    refine wq_iload_n (pc := 27) dM_withRisk_27 rfl rfl ?_
    refine wq_iload_n (pc := 28) dM_withRisk_28 rfl rfl ?_
    refine wq_iload (pc := 29) dM_withRisk_29 rfl ?_
    refine wq_callS (d' := 1) (pc := 31) (as := [vI x2, vI x4]) (rest := [vI x3]) (lo' := [iI x2, iI x4]) dM_withRisk_31 mO_M_has lS_M_102 rfl rfl rfl rfl rfl rfl ?_
    refine sp_M_has s2 (fun c3 => ?_) (fun c3 => ?_)
    · have H := H.1 c3
      show Wq 11 0 0 mM_withRisk 34 [iR 80, iI x1, iI x2, iI x3, iI x4] [vI 1, vI x3] M _
      refine wq_if_eq (pc := 34) (tgt := 55) dM_withRisk_34 (by decide) (fun q => absurd q (by decide)) (fun _ => ?_)
      refine wq_aload_n (pc := 37) dM_withRisk_37 rfl rfl ?_
      refine wq_iconst (pc := 38) dM_withRisk_38 rfl ?_
      refine wq_iload (pc := 39) dM_withRisk_39 rfl ?_
      refine wq_callV (d' := 10) (pc := 41) (as := [vI 0, vI x4]) (rest := [vI x3]) (lo' := [iR 80, iI 0, iI x4, none, none]) dM_withRisk_41 mO_M_saidOf lV_M_261 sh_80 (by decide) cl_11 rfl rfl rfl rfl rfl rfl ?_
      exact H
    · have H := H.2 c3
      show Wq 11 0 0 mM_withRisk 34 [iR 80, iI x1, iI x2, iI x3, iI x4] [vI 0, vI x3] M _
      obtain ⟨s4, H⟩ := H
      refine wq_if_eq (pc := 34) (tgt := 55) dM_withRisk_34 (by decide) (fun _ => ?_) (fun q => absurd (by decide) q)
      refine wq_iconst (pc := 55) dM_withRisk_55 rfl ?_
      refine wq_ior (pc := 56) dM_withRisk_56 ?_
      refine wq_istore_n (pc := 57) (lo' := [iR 80, iI x1, iI x2, iI (bOr x3 0), iI x4]) dM_withRisk_57 rfl rfl rfl ?_
      refine wq_iinc (pc := 58) (lo' := [iR 80, iI x1, iI x2, iI (bOr x3 0), iI (x4 + 1)]) dM_withRisk_58 rfl rfl (by rw [show wr (x4 + 1) = x4 + 1 from (Eq.trans (wr_eq (by omega) (by omega)) (by omega))]; rfl) ?_
      refine wq_goto (pc := 61) (tgt := 16) dM_withRisk_61 (by decide) ?_
      exact H

set_option maxRecDepth 20000 in
theorem B_M_withRisk_44 {x1 x2 x3 x4 y0 y1 : Int} {M : Mm} {Q : Mm → Option Mv → Prop} (H : ((y0 < x1 → ((-2147483648 ≤ x4 + 1 ∧ x4 + 1 < 2147483648) ∧ Wq 11 0 0 mM_withRisk 16 [iR 80, iI x1, iI x2, iI (bOr y1 0), iI (x4 + 1)] [] M Q)) ∧ (¬ y0 < x1 → ((-2147483648 ≤ x4 + 1 ∧ x4 + 1 < 2147483648) ∧ Wq 11 0 0 mM_withRisk 16 [iR 80, iI x1, iI x2, iI (bOr y1 (bShl 1 x4)), iI (x4 + 1)] [] M Q)))) : Wq 11 0 0 mM_withRisk 44 [iR 80, iI x1, iI x2, iI x3, iI x4] [vI y0, vI y1] M Q := by
  refine wq_iload_n (pc := 44) dM_withRisk_44 rfl rfl ?_
  refine wq_icmp_lt (pc := 45) (tgt := 55) dM_withRisk_45 (by decide) (fun c1 => ?_) (fun c1 => ?_)
  · have H := H.1 c1
    obtain ⟨s2, H⟩ := H
    refine wq_iconst (pc := 55) dM_withRisk_55 rfl ?_
    refine wq_ior (pc := 56) dM_withRisk_56 ?_
    refine wq_istore_n (pc := 57) (lo' := [iR 80, iI x1, iI x2, iI (bOr y1 0), iI x4]) dM_withRisk_57 rfl rfl rfl ?_
    refine wq_iinc (pc := 58) (lo' := [iR 80, iI x1, iI x2, iI (bOr y1 0), iI (x4 + 1)]) dM_withRisk_58 rfl rfl (by rw [show wr (x4 + 1) = x4 + 1 from (Eq.trans (wr_eq (by omega) (by omega)) (by omega))]; rfl) ?_
    refine wq_goto (pc := 61) (tgt := 16) dM_withRisk_61 (by decide) ?_
    exact H
  · have H := H.2 c1
    obtain ⟨s3, H⟩ := H
    refine wq_iconst (pc := 48) dM_withRisk_48 rfl ?_
    refine wq_iload (pc := 49) dM_withRisk_49 rfl ?_
    refine wq_ishl (pc := 51) dM_withRisk_51 ?_
    refine wq_goto (pc := 52) (tgt := 56) dM_withRisk_52 (by decide) ?_
    refine wq_ior (pc := 56) dM_withRisk_56 ?_
    refine wq_istore_n (pc := 57) (lo' := [iR 80, iI x1, iI x2, iI (bOr y1 (bShl 1 x4)), iI x4]) dM_withRisk_57 rfl rfl rfl ?_
    refine wq_iinc (pc := 58) (lo' := [iR 80, iI x1, iI x2, iI (bOr y1 (bShl 1 x4)), iI (x4 + 1)]) dM_withRisk_58 rfl rfl (by rw [show wr (x4 + 1) = x4 + 1 from (Eq.trans (wr_eq (by omega) (by omega)) (by omega))]; rfl) ?_
    refine wq_goto (pc := 61) (tgt := 16) dM_withRisk_61 (by decide) ?_
    exact H
set_option maxRecDepth 20000 in
theorem B_M_paid_0 {M : Mm} {Q : Mm → Option Mv → Prop} (H : Wq 11 0 0 mM_withRisk 0 [iR 80, iI 2, none, none, none] [] M (fun M' v => Wq 12 0 0 mM_paid 5 [iR 80, none, none, none] (v.toList ++ []) M' Q)) : Wq 12 0 0 mM_paid 0 [iR 80, none, none, none] [] M Q := by
  refine wq_aload_n (pc := 0) dM_paid_0 rfl rfl ?_
  refine wq_iconst (pc := 1) dM_paid_1 rfl ?_
  refine wq_callV (d' := 11) (pc := 2) (as := [vI 2]) (rest := []) (lo' := [iR 80, iI 2, none, none, none]) dM_paid_2 mO_M_withRisk lV_M_264 sh_80 (by decide) cl_11 rfl rfl rfl rfl rfl rfl ?_
  exact H

set_option maxRecDepth 20000 in
theorem B_M_paid_5 {y0 : Int} {M : Mm} {Q : Mm → Option Mv → Prop} (H : Wq 12 0 0 mM_paid 10 [iR 80, iI y0, iI 0, iI 0] [] M Q) : Wq 12 0 0 mM_paid 5 [iR 80, none, none, none] [vI y0] M Q := by
  refine wq_istore_n (pc := 5) (lo' := [iR 80, iI y0, none, none]) dM_paid_5 rfl rfl rfl ?_
  refine wq_iconst (pc := 6) dM_paid_6 rfl ?_
  refine wq_istore_n (pc := 7) (lo' := [iR 80, iI y0, iI 0, none]) dM_paid_7 rfl rfl rfl ?_
  refine wq_iconst (pc := 8) dM_paid_8 rfl ?_
  refine wq_istore_n (pc := 9) (lo' := [iR 80, iI y0, iI 0, iI 0]) dM_paid_9 rfl rfl rfl ?_
  exact H

set_option maxRecDepth 20000 in
theorem B_M_paid_10 {x1 x2 x3 : Int} {M : Mm} {Q : Mm → Option Mv → Prop} (hS : RefOK M) (H : ((gI M 81 4 ≤ x3 → Q M (some (vI x2))) ∧ (¬ gI M 81 4 ≤ x3 → ((0 ≤ x1 ∧ x1 < 2147483648 ∧ 0 ≤ x3 ∧ x3 < 32) ∧ ((hb x1 x3 = true → Wq 6 0 0 mM_step 0 [iR 80, iI x1, iI x3, none, none] [] M (fun M' v => Wq 12 0 0 mM_paid 35 [iR 80, iI x1, iI x2, iI x3] (v.toList ++ [vI x2]) M' Q)) ∧ (¬ (hb x1 x3 = true) → Wq 12 0 0 mM_paid 10 [iR 80, iI x1, iI (wr (x2 + 0)), iI (wr (x3 + 1))] [] M Q)))))) : Wq 12 0 0 mM_paid 10 [iR 80, iI x1, iI x2, iI x3] [] M Q := by
  refine wq_iload_n (pc := 10) dM_paid_10 rfl rfl ?_
  refine wq_aload_n (pc := 11) dM_paid_11 rfl rfl ?_
  refine wq_getR (pc := 12) (z := 0) (b := 81) dM_paid_12 fO_M_9 sh_80 rfl rfl (rf_80_0 hS) ?_
  refine wq_iconst (pc := 15) dM_paid_15 rfl ?_
  refine wq_iald (pc := 16) dM_paid_16 sh_81 (by decide) (by decide) ?_
  refine wq_icmp_ge (pc := 17) (tgt := 54) dM_paid_17 (by decide) (fun c1 => ?_) (fun c1 => ?_)
  · have H := H.1 c1
    refine wq_iload_n (pc := 54) dM_paid_54 rfl rfl ?_
    refine wq_ireturn (pc := 55) dM_paid_55 trivial ?_
    exact H
  · have H := H.2 c1
    obtain ⟨s2, H⟩ := H
    refine wq_iload_n (pc := 20) dM_paid_20 rfl rfl ?_
    refine wq_iload_n (pc := 21) dM_paid_21 rfl rfl ?_
    refine wq_iload_n (pc := 22) dM_paid_22 rfl rfl ?_
    refine wq_callS (d' := 1) (pc := 23) (as := [vI x1, vI x3]) (rest := [vI x2]) (lo' := [iI x1, iI x3]) dM_paid_23 mO_M_has lS_M_102 rfl rfl rfl rfl rfl rfl ?_
    refine sp_M_has s2 (fun c3 => ?_) (fun c3 => ?_)
    · have H := H.1 c3
      show Wq 12 0 0 mM_paid 26 [iR 80, iI x1, iI x2, iI x3] [vI 1, vI x2] M _
      refine wq_if_eq (pc := 26) (tgt := 45) dM_paid_26 (by decide) (fun q => absurd q (by decide)) (fun _ => ?_)
      refine wq_aload_n (pc := 29) dM_paid_29 rfl rfl ?_
      refine wq_iload_n (pc := 30) dM_paid_30 rfl rfl ?_
      refine wq_iload_n (pc := 31) dM_paid_31 rfl rfl ?_
      refine wq_callV (d' := 6) (pc := 32) (as := [vI x1, vI x3]) (rest := [vI x2]) (lo' := [iR 80, iI x1, iI x3, none, none]) dM_paid_32 mO_M_step lV_M_176 sh_80 (by decide) cl_11 rfl rfl rfl rfl rfl rfl ?_
      exact H
    · have H := H.2 c3
      show Wq 12 0 0 mM_paid 26 [iR 80, iI x1, iI x2, iI x3] [vI 0, vI x2] M _
      refine wq_if_eq (pc := 26) (tgt := 45) dM_paid_26 (by decide) (fun _ => ?_) (fun q => absurd (by decide) q)
      refine wq_iconst (pc := 45) dM_paid_45 rfl ?_
      refine wq_iadd (pc := 46) dM_paid_46 ?_
      refine wq_istore_n (pc := 47) (lo' := [iR 80, iI x1, iI (wr (x2 + 0)), iI x3]) dM_paid_47 rfl rfl rfl ?_
      refine wq_iinc (pc := 48) (lo' := [iR 80, iI x1, iI (wr (x2 + 0)), iI (wr (x3 + 1))]) dM_paid_48 rfl rfl rfl ?_
      refine wq_goto (pc := 51) (tgt := 10) dM_paid_51 (by decide) ?_
      exact H

set_option maxRecDepth 20000 in
theorem B_M_paid_35 {x1 x2 x3 y0 y1 : Int} {M : Mm} {Q : Mm → Option Mv → Prop} (H : Wq 10 0 0 mM_saidOf 0 [iR 80, iI 1, iI x3, none, none] [] M (fun M' v => Wq 12 0 0 mM_paid 41 [iR 80, iI x1, iI x2, iI x3] (v.toList ++ [vI y0, vI y1]) M' Q)) : Wq 12 0 0 mM_paid 35 [iR 80, iI x1, iI x2, iI x3] [vI y0, vI y1] M Q := by
  refine wq_aload_n (pc := 35) dM_paid_35 rfl rfl ?_
  refine wq_iconst (pc := 36) dM_paid_36 rfl ?_
  refine wq_iload_n (pc := 37) dM_paid_37 rfl rfl ?_
  refine wq_callV (d' := 10) (pc := 38) (as := [vI 1, vI x3]) (rest := [vI y0, vI y1]) (lo' := [iR 80, iI 1, iI x3, none, none]) dM_paid_38 mO_M_saidOf lV_M_261 sh_80 (by decide) cl_11 rfl rfl rfl rfl rfl rfl ?_
  exact H

set_option maxRecDepth 20000 in
theorem B_M_paid_41 {x1 x2 x3 y0 y1 y2 : Int} {M : Mm} {Q : Mm → Option Mv → Prop} (H : Wq 12 0 0 mM_paid 10 [iR 80, iI x1, iI (wr (y2 + wr (y1 * y0))), iI (wr (x3 + 1))] [] M Q) : Wq 12 0 0 mM_paid 41 [iR 80, iI x1, iI x2, iI x3] [vI y0, vI y1, vI y2] M Q := by
  refine wq_imul (pc := 41) dM_paid_41 ?_
  refine wq_goto (pc := 42) (tgt := 46) dM_paid_42 (by decide) ?_
  refine wq_iadd (pc := 46) dM_paid_46 ?_
  refine wq_istore_n (pc := 47) (lo' := [iR 80, iI x1, iI (wr (y2 + wr (y1 * y0))), iI x3]) dM_paid_47 rfl rfl rfl ?_
  refine wq_iinc (pc := 48) (lo' := [iR 80, iI x1, iI (wr (y2 + wr (y1 * y0))), iI (wr (x3 + 1))]) dM_paid_48 rfl rfl rfl ?_
  refine wq_goto (pc := 51) (tgt := 10) dM_paid_51 (by decide) ?_
  exact H
set_option maxRecDepth 20000 in
theorem B_M_claim_0 {x1 : Int} {M : Mm} {Q : Mm → Option Mv → Prop} (hS : RefOK M) (H : ((0 ≤ x1 ∧ x1 ≤ 5 → Wq 2 0 0 mM_knownOn 0 [iR 80, iI (gI M 81 0), none, none, none] [] M (fun M' v => Wq 13 0 0 mM_claim 29 [iR 80, iI x1, none, none, none, none] (v.toList ++ []) M' Q)) ∧ (¬ (0 ≤ x1 ∧ x1 ≤ 5) → Q (sI M 83 1 (wr (gI M 83 1 + 1))) (some (vI (-1000001)))))) : Wq 13 0 0 mM_claim 0 [iR 80, iI x1, none, none, none, none] [] M Q := by
  refine wq_iload_n (pc := 0) dM_claim_0 rfl rfl ?_
  refine wq_i2l (pc := 1) dM_claim_1 ?_
  refine wq_lconst (pc := 2) (x := 0) dM_claim_2 rfl rfl ?_
  refine wq_ldc2 (pc := 3) (z := 5) dM_claim_3 kO_M_74 (by decide) ?_
  refine wq_callS (d' := 1) (pc := 6) (as := [vL x1, vL 0, vL 5]) (rest := []) (lo' := [iL x1, none, iL 0, none, iL 5, none]) dM_claim_6 mO_M_within lS_M_68 rfl rfl rfl rfl rfl rfl ?_
  refine sp_M_within (fun c1 => ?_) (fun c1 => ?_)
  · have H := H.1 c1
    show Wq 13 0 0 mM_claim 9 [iR 80, iI x1, none, none, none, none] [vI 1] M _
    refine wq_if_ne (pc := 9) (tgt := 19) dM_claim_9 (by decide) (fun _ => ?_) (fun q => absurd q (by decide))
    refine wq_aload_n (pc := 19) dM_claim_19 rfl rfl ?_
    refine wq_aload_n (pc := 20) dM_claim_20 rfl rfl ?_
    refine wq_getR (pc := 21) (z := 0) (b := 81) dM_claim_21 fO_M_9 sh_80 rfl rfl (rf_80_0 hS) ?_
    refine wq_iconst (pc := 24) dM_claim_24 rfl ?_
    refine wq_iald (pc := 25) dM_claim_25 sh_81 (by decide) (by decide) ?_
    refine wq_callV (d' := 2) (pc := 26) (as := [vI (gI M 81 0)]) (rest := []) (lo' := [iR 80, iI (gI M 81 0), none, none, none]) dM_claim_26 mO_M_knownOn lV_M_132 sh_80 (by decide) cl_11 rfl rfl rfl rfl rfl rfl ?_
    exact H
  · have H := H.2 c1
    show Wq 13 0 0 mM_claim 9 [iR 80, iI x1, none, none, none, none] [vI 0] M _
    refine wq_if_ne (pc := 9) (tgt := 19) dM_claim_9 (by decide) (fun q => absurd q (by decide)) (fun _ => ?_)
    refine wq_aload_n (pc := 12) dM_claim_12 rfl rfl ?_
    refine wq_ldc (pc := 13) (z := (-1000001)) dM_claim_13 kO_M_78 (by decide) ?_
    refine wq_callV (d' := 1) (pc := 15) (as := [vI (-1000001)]) (rest := []) (lo' := [iR 80, iI ((-1000001))]) dM_claim_15 mO_M_finding lV_M_79 sh_80 (by decide) cl_11 rfl rfl rfl rfl rfl rfl ?_
    refine sp_M_finding (k := 1) (by decide) (by decide) (by decide) hS ?_
    show Wq 13 0 0 mM_claim 18 [iR 80, iI x1, none, none, none, none] [vI (-1000001)] (sI M 83 1 (wr (gI M 83 1 + 1))) _
    refine wq_ireturn (pc := 18) dM_claim_18 trivial ?_
    exact H

set_option maxRecDepth 20000 in
theorem B_M_claim_29 {x1 y0 : Int} {M : Mm} {Q : Mm → Option Mv → Prop} (H : Wq 11 0 0 mM_withRisk 0 [iR 80, iI 1, none, none, none] [] M (fun M' v => Wq 13 0 0 mM_claim 36 [iR 80, iI x1, iI y0, none, none, none] (v.toList ++ [vR 80]) M' Q)) : Wq 13 0 0 mM_claim 29 [iR 80, iI x1, none, none, none, none] [vI y0] M Q := by
  refine wq_istore_n (pc := 29) (lo' := [iR 80, iI x1, iI y0, none, none, none]) dM_claim_29 rfl rfl rfl ?_
  refine wq_aload_n (pc := 30) dM_claim_30 rfl rfl ?_
  refine wq_aload_n (pc := 31) dM_claim_31 rfl rfl ?_
  refine wq_iconst (pc := 32) dM_claim_32 rfl ?_
  refine wq_callV (d' := 11) (pc := 33) (as := [vI 1]) (rest := [vR 80]) (lo' := [iR 80, iI 1, none, none, none]) dM_claim_33 mO_M_withRisk lV_M_264 sh_80 (by decide) cl_11 rfl rfl rfl rfl rfl rfl ?_
  exact H

set_option maxRecDepth 20000 in
theorem B_M_claim_36 {x1 x2 y0 : Int} {M : Mm} {Q : Mm → Option Mv → Prop} (H : Wq 5 0 0 mM_endBy 0 [iR 80, iI y0] [] M (fun M' v => Wq 13 0 0 mM_claim 39 [iR 80, iI x1, iI x2, none, none, none] (v.toList ++ []) M' Q)) : Wq 13 0 0 mM_claim 36 [iR 80, iI x1, iI x2, none, none, none] [vI y0, vR 80] M Q := by
  refine wq_callV (d' := 5) (pc := 36) (as := [vI y0]) (rest := []) (lo' := [iR 80, iI y0]) dM_claim_36 mO_M_endBy lV_M_162 sh_80 (by decide) cl_11 rfl rfl rfl rfl rfl rfl ?_
  exact H

set_option maxRecDepth 20000 in
theorem B_M_claim_39 {x1 x2 y0 : Int} {M : Mm} {Q : Mm → Option Mv → Prop} (H : ((x1 = 0 → Wq 5 0 0 mM_endBy 0 [iR 80, iI 0] [] M (fun M' v => Wq 13 0 0 mM_claim 82 [iR 80, iI x1, iI x2, iI y0, none, none] (v.toList ++ [vI y0]) M' Q)) ∧ (x1 = 1 → Q M (some (vI y0))) ∧ (x1 = 2 → Wq 12 0 0 mM_paid 0 [iR 80, none, none, none] [] M (fun M' v => Wq 13 0 0 mM_claim 90 [iR 80, iI x1, iI x2, iI y0, none, none] (v.toList ++ []) M' Q)) ∧ (x1 = 3 → Wq 5 0 0 mM_endBy 0 [iR 80, iI x2] [] M (fun M' v => Wq 13 0 0 mM_claim 97 [iR 80, iI x1, iI x2, iI y0, none, none] (v.toList ++ [vI 0]) M' Q)) ∧ (x1 = 4 → Wq 11 0 0 mM_withRisk 0 [iR 80, iI 1, none, none, none] [] M (fun M' v => Wq 13 0 0 mM_claim 108 [iR 80, iI x1, iI x2, iI y0, none, none] (v.toList ++ []) M' Q)) ∧ (¬ x1 = 0 ∧ ¬ x1 = 1 ∧ ¬ x1 = 2 ∧ ¬ x1 = 3 ∧ ¬ x1 = 4 → Wq 13 0 0 mM_claim 115 [iR 80, iI x1, iI x2, iI y0, iI 0, iI 0] [] M Q))) : Wq 13 0 0 mM_claim 39 [iR 80, iI x1, iI x2, none, none, none] [vI y0] M Q := by
  refine wq_istore_n (pc := 39) (lo' := [iR 80, iI x1, iI x2, iI y0, none, none]) dM_claim_39 rfl rfl rfl ?_
  refine wq_iload_n (pc := 40) dM_claim_40 rfl rfl ?_
  by_cases c1 : x1 = 0
  · refine wq_tabIn (pc := 41) (tgt := 76) dM_claim_41 (by rw [c1]; decide) (by rw [c1]; decide) (by rw [c1]; rfl) (by decide) ?_
    have H := H.1 c1
    refine wq_iload_n (pc := 76) dM_claim_76 rfl rfl ?_
    refine wq_aload_n (pc := 77) dM_claim_77 rfl rfl ?_
    refine wq_iconst (pc := 78) dM_claim_78 rfl ?_
    refine wq_callV (d' := 5) (pc := 79) (as := [vI 0]) (rest := [vI y0]) (lo' := [iR 80, iI 0]) dM_claim_79 mO_M_endBy lV_M_162 sh_80 (by decide) cl_11 rfl rfl rfl rfl rfl rfl ?_
    exact H
  by_cases c2 : x1 = 1
  · refine wq_tabIn (pc := 41) (tgt := 84) dM_claim_41 (by rw [c2]; decide) (by rw [c2]; decide) (by rw [c2]; rfl) (by decide) ?_
    have H := H.2.1 c2
    refine wq_iload_n (pc := 84) dM_claim_84 rfl rfl ?_
    refine wq_ireturn (pc := 85) dM_claim_85 trivial ?_
    exact H
  by_cases c3 : x1 = 2
  · refine wq_tabIn (pc := 41) (tgt := 86) dM_claim_41 (by rw [c3]; decide) (by rw [c3]; decide) (by rw [c3]; rfl) (by decide) ?_
    have H := H.2.2.1 c3
    refine wq_aload_n (pc := 86) dM_claim_86 rfl rfl ?_
    refine wq_callV (d' := 12) (pc := 87) (as := []) (rest := []) (lo' := [iR 80, none, none, none]) dM_claim_87 mO_M_paid lV_M_267 sh_80 (by decide) cl_11 rfl rfl rfl rfl rfl rfl ?_
    exact H
  by_cases c4 : x1 = 3
  · refine wq_tabIn (pc := 41) (tgt := 91) dM_claim_41 (by rw [c4]; decide) (by rw [c4]; decide) (by rw [c4]; rfl) (by decide) ?_
    have H := H.2.2.2.1 c4
    refine wq_iconst (pc := 91) dM_claim_91 rfl ?_
    refine wq_aload_n (pc := 92) dM_claim_92 rfl rfl ?_
    refine wq_iload_n (pc := 93) dM_claim_93 rfl rfl ?_
    refine wq_callV (d' := 5) (pc := 94) (as := [vI x2]) (rest := [vI 0]) (lo' := [iR 80, iI x2]) dM_claim_94 mO_M_endBy lV_M_162 sh_80 (by decide) cl_11 rfl rfl rfl rfl rfl rfl ?_
    exact H
  by_cases c5 : x1 = 4
  · refine wq_tabIn (pc := 41) (tgt := 103) dM_claim_41 (by rw [c5]; decide) (by rw [c5]; decide) (by rw [c5]; rfl) (by decide) ?_
    have H := H.2.2.2.2.1 c5
    refine wq_aload_n (pc := 103) dM_claim_103 rfl rfl ?_
    refine wq_iconst (pc := 104) dM_claim_104 rfl ?_
    refine wq_callV (d' := 11) (pc := 105) (as := [vI 1]) (rest := []) (lo' := [iR 80, iI 1, none, none, none]) dM_claim_105 mO_M_withRisk lV_M_264 sh_80 (by decide) cl_11 rfl rfl rfl rfl rfl rfl ?_
    exact H
  refine wq_tabOut (pc := 41) (tgt := 109) dM_claim_41 (by omega) (by decide) ?_
  have H := H.2.2.2.2.2 (by omega)
  refine wq_iconst (pc := 109) dM_claim_109 rfl ?_
  refine wq_istore (pc := 110) (lo' := [iR 80, iI x1, iI x2, iI y0, iI 0, none]) dM_claim_110 rfl rfl ?_
  refine wq_iconst (pc := 112) dM_claim_112 rfl ?_
  refine wq_istore (pc := 113) (lo' := [iR 80, iI x1, iI x2, iI y0, iI 0, iI 0]) dM_claim_113 rfl rfl ?_
  exact H

set_option maxRecDepth 20000 in
theorem B_M_claim_82 {x1 x2 x3 y0 y1 : Int} {M : Mm} {Q : Mm → Option Mv → Prop} (H : ((-2147483648 ≤ y1 - y0 ∧ y1 - y0 < 2147483648) ∧ Q M (some (vI (y1 - y0))))) : Wq 13 0 0 mM_claim 82 [iR 80, iI x1, iI x2, iI x3, none, none] [vI y0, vI y1] M Q := by
  obtain ⟨s1, H⟩ := H
  refine wq_isub (pc := 82) dM_claim_82 ?_
  refine wq_re (x := (wr (y1 - y0))) (y := (y1 - y0)) (Eq.trans (wr_eq (by omega) (by omega)) (by omega)) ?_
  refine wq_ireturn (pc := 83) dM_claim_83 trivial ?_
  exact H

set_option maxRecDepth 20000 in
theorem B_M_claim_90 {x1 x2 x3 y0 : Int} {M : Mm} {Q : Mm → Option Mv → Prop} (H : Q M (some (vI y0))) : Wq 13 0 0 mM_claim 90 [iR 80, iI x1, iI x2, iI x3, none, none] [vI y0] M Q := by
  refine wq_ireturn (pc := 90) dM_claim_90 trivial ?_
  exact H

set_option maxRecDepth 20000 in
theorem B_M_claim_97 {x1 x2 x3 y0 y1 : Int} {M : Mm} {Q : Mm → Option Mv → Prop} (H : ((-2147483648 ≤ y0 - x3 ∧ y0 - x3 < 2147483648) ∧ Q M (some (vI (max y1 (y0 - x3)))))) : Wq 13 0 0 mM_claim 97 [iR 80, iI x1, iI x2, iI x3, none, none] [vI y0, vI y1] M Q := by
  obtain ⟨s1, H⟩ := H
  refine wq_iload_n (pc := 97) dM_claim_97 rfl rfl ?_
  refine wq_isub (pc := 98) dM_claim_98 ?_
  refine wq_re (x := (wr (y0 - x3))) (y := (y0 - x3)) (Eq.trans (wr_eq (by omega) (by omega)) (by omega)) ?_
  refine wq_max (pc := 99) dM_claim_99 xO_M_139 rfl ?_
  refine wq_ireturn (pc := 102) dM_claim_102 trivial ?_
  exact H

set_option maxRecDepth 20000 in
theorem B_M_claim_108 {x1 x2 x3 y0 : Int} {M : Mm} {Q : Mm → Option Mv → Prop} (H : Q M (some (vI y0))) : Wq 13 0 0 mM_claim 108 [iR 80, iI x1, iI x2, iI x3, none, none] [vI y0] M Q := by
  refine wq_ireturn (pc := 108) dM_claim_108 trivial ?_
  exact H

set_option maxRecDepth 20000 in
theorem B_M_claim_115 {x1 x2 x3 x4 x5 : Int} {M : Mm} {Q : Mm → Option Mv → Prop} (hS : RefOK M) (H : ((gI M 81 4 ≤ x5 → Q M (some (vI x4))) ∧ (¬ gI M 81 4 ≤ x5 → ((0 ≤ x2 ∧ x2 < 2147483648 ∧ 0 ≤ x5 ∧ x5 < 32) ∧ ((hb x2 x5 = true → Wq 3 0 0 mM_isTwo 0 [iR 80, iI x5, none, none, none, none] [] M (fun M' v => Wq 13 0 0 mM_claim 143 [iR 80, iI x1, iI x2, iI x3, iI x4, iI x5] (v.toList ++ [vI x4]) M' Q)) ∧ (¬ (hb x2 x5 = true) → ((-2147483648 ≤ x5 + 1 ∧ x5 + 1 < 2147483648) ∧ Wq 13 0 0 mM_claim 115 [iR 80, iI x1, iI x2, iI x3, iI (bOr x4 0), iI (x5 + 1)] [] M Q))))))) : Wq 13 0 0 mM_claim 115 [iR 80, iI x1, iI x2, iI x3, iI x4, iI x5] [] M Q := by
  refine wq_iload (pc := 115) dM_claim_115 rfl ?_
  refine wq_aload_n (pc := 117) dM_claim_117 rfl rfl ?_
  refine wq_getR (pc := 118) (z := 0) (b := 81) dM_claim_118 fO_M_9 sh_80 rfl rfl (rf_80_0 hS) ?_
  refine wq_iconst (pc := 121) dM_claim_121 rfl ?_
  refine wq_iald (pc := 122) dM_claim_122 sh_81 (by decide) (by decide) ?_
  refine wq_icmp_ge (pc := 123) (tgt := 163) dM_claim_123 (by decide) (fun c1 => ?_) (fun c1 => ?_)
  · have H := H.1 c1
    refine wq_iload (pc := 163) dM_claim_163 rfl ?_
    refine wq_ireturn (pc := 165) dM_claim_165 trivial ?_
    exact H
  · have H := H.2 c1
    obtain ⟨s2, H⟩ := H
    refine wq_iload (pc := 126) dM_claim_126 rfl ?_
    refine wq_iload_n (pc := 128) dM_claim_128 rfl rfl ?_
    refine wq_iload (pc := 129) dM_claim_129 rfl ?_
    refine wq_callS (d' := 1) (pc := 131) (as := [vI x2, vI x5]) (rest := [vI x4]) (lo' := [iI x2, iI x5]) dM_claim_131 mO_M_has lS_M_102 rfl rfl rfl rfl rfl rfl ?_
    refine sp_M_has s2 (fun c3 => ?_) (fun c3 => ?_)
    · have H := H.1 c3
      show Wq 13 0 0 mM_claim 134 [iR 80, iI x1, iI x2, iI x3, iI x4, iI x5] [vI 1, vI x4] M _
      refine wq_if_eq (pc := 134) (tgt := 153) dM_claim_134 (by decide) (fun q => absurd q (by decide)) (fun _ => ?_)
      refine wq_aload_n (pc := 137) dM_claim_137 rfl rfl ?_
      refine wq_iload (pc := 138) dM_claim_138 rfl ?_
      refine wq_callV (d' := 3) (pc := 140) (as := [vI x5]) (rest := [vI x4]) (lo' := [iR 80, iI x5, none, none, none, none]) dM_claim_140 mO_M_isTwo lV_M_243 sh_80 (by decide) cl_11 rfl rfl rfl rfl rfl rfl ?_
      exact H
    · have H := H.2 c3
      show Wq 13 0 0 mM_claim 134 [iR 80, iI x1, iI x2, iI x3, iI x4, iI x5] [vI 0, vI x4] M _
      obtain ⟨s4, H⟩ := H
      refine wq_if_eq (pc := 134) (tgt := 153) dM_claim_134 (by decide) (fun _ => ?_) (fun q => absurd (by decide) q)
      refine wq_iconst (pc := 153) dM_claim_153 rfl ?_
      refine wq_ior (pc := 154) dM_claim_154 ?_
      refine wq_istore (pc := 155) (lo' := [iR 80, iI x1, iI x2, iI x3, iI (bOr x4 0), iI x5]) dM_claim_155 rfl rfl ?_
      refine wq_iinc (pc := 157) (lo' := [iR 80, iI x1, iI x2, iI x3, iI (bOr x4 0), iI (x5 + 1)]) dM_claim_157 rfl rfl (by rw [show wr (x5 + 1) = x5 + 1 from (Eq.trans (wr_eq (by omega) (by omega)) (by omega))]; rfl) ?_
      refine wq_goto (pc := 160) (tgt := 115) dM_claim_160 (by decide) ?_
      exact H

set_option maxRecDepth 20000 in
theorem B_M_claim_143 {x1 x2 x3 x4 x5 y0 y1 : Int} {M : Mm} {Q : Mm → Option Mv → Prop} (H : ((y0 = 0 → ((-2147483648 ≤ x5 + 1 ∧ x5 + 1 < 2147483648) ∧ Wq 13 0 0 mM_claim 115 [iR 80, iI x1, iI x2, iI x3, iI (bOr y1 0), iI (x5 + 1)] [] M Q)) ∧ (¬ y0 = 0 → ((-2147483648 ≤ x5 + 1 ∧ x5 + 1 < 2147483648) ∧ Wq 13 0 0 mM_claim 115 [iR 80, iI x1, iI x2, iI x3, iI (bOr y1 (bShl 1 x5)), iI (x5 + 1)] [] M Q)))) : Wq 13 0 0 mM_claim 143 [iR 80, iI x1, iI x2, iI x3, iI x4, iI x5] [vI y0, vI y1] M Q := by
  refine wq_if_eq (pc := 143) (tgt := 153) dM_claim_143 (by decide) (fun c1 => ?_) (fun c1 => ?_)
  · have H := H.1 c1
    obtain ⟨s2, H⟩ := H
    refine wq_iconst (pc := 153) dM_claim_153 rfl ?_
    refine wq_ior (pc := 154) dM_claim_154 ?_
    refine wq_istore (pc := 155) (lo' := [iR 80, iI x1, iI x2, iI x3, iI (bOr y1 0), iI x5]) dM_claim_155 rfl rfl ?_
    refine wq_iinc (pc := 157) (lo' := [iR 80, iI x1, iI x2, iI x3, iI (bOr y1 0), iI (x5 + 1)]) dM_claim_157 rfl rfl (by rw [show wr (x5 + 1) = x5 + 1 from (Eq.trans (wr_eq (by omega) (by omega)) (by omega))]; rfl) ?_
    refine wq_goto (pc := 160) (tgt := 115) dM_claim_160 (by decide) ?_
    exact H
  · have H := H.2 c1
    obtain ⟨s3, H⟩ := H
    refine wq_iconst (pc := 146) dM_claim_146 rfl ?_
    refine wq_iload (pc := 147) dM_claim_147 rfl ?_
    refine wq_ishl (pc := 149) dM_claim_149 ?_
    refine wq_goto (pc := 150) (tgt := 154) dM_claim_150 (by decide) ?_
    refine wq_ior (pc := 154) dM_claim_154 ?_
    refine wq_istore (pc := 155) (lo' := [iR 80, iI x1, iI x2, iI x3, iI (bOr y1 (bShl 1 x5)), iI x5]) dM_claim_155 rfl rfl ?_
    refine wq_iinc (pc := 157) (lo' := [iR 80, iI x1, iI x2, iI x3, iI (bOr y1 (bShl 1 x5)), iI (x5 + 1)]) dM_claim_157 rfl rfl (by rw [show wr (x5 + 1) = x5 + 1 from (Eq.trans (wr_eq (by omega) (by omega)) (by omega))]; rfl) ?_
    refine wq_goto (pc := 160) (tgt := 115) dM_claim_160 (by decide) ?_
    exact H
