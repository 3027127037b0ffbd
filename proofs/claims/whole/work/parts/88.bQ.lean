set_option maxRecDepth 20000 in
theorem B_M_began_0 {x1 : Int} {M : Mm} {Q : Mm → Option Mv → Prop} (hS : RefOK M) (H : ((40 ≤ gI M 80 8 → Q M none) ∧ (¬ 40 ≤ gI M 80 8 → (((0 ≤ gI M 80 8 ∧ gI M 80 8 < 40) ∧ (-2147483648 ≤ gI M 80 8 + 1 ∧ gI M 80 8 + 1 < 2147483648)) ∧ Q (sI (sI M 87 (gI M 80 8) x1) 80 8 (gI M 80 8 + 1)) none)))) : Wq 1 0 0 mM_began 0 [iR 80, iI x1] [] M Q := by
  refine wq_aload_n (pc := 0) dM_began_0 rfl rfl ?_
  refine wq_getI (pc := 1) (z := 8) dM_began_1 fO_M_286 sh_80 rfl rfl ?_
  refine wq_bipush (pc := 4) dM_began_4 rfl ?_
  refine wq_icmp_ge (pc := 6) (tgt := 29) dM_began_6 (by decide) (fun c1 => ?_) (fun c1 => ?_)
  · have H := H.1 c1
    refine wq_return (pc := 29) dM_began_29 trivial ?_
    exact H
  · have H := H.2 c1
    obtain ⟨⟨s2, s3⟩, H⟩ := H
    refine wq_aload_n (pc := 9) dM_began_9 rfl rfl ?_
    refine wq_getR (pc := 10) (z := 7) (b := 87) dM_began_10 fO_M_28 sh_80 rfl rfl (rf_80_7 hS) ?_
    refine wq_aload_n (pc := 13) dM_began_13 rfl rfl ?_
    refine wq_getI (pc := 14) (z := 8) dM_began_14 fO_M_286 sh_80 rfl rfl ?_
    refine wq_iload_n (pc := 17) dM_began_17 rfl rfl ?_
    refine wq_iast (pc := 18) dM_began_18 sh_87 (by decide) s2.1 s2.2 ?_
    refine wq_aload_n (pc := 19) dM_began_19 rfl rfl ?_
    refine wq_dup (pc := 20) dM_began_20 rfl ?_
    refine wq_getI (pc := 21) (z := 8) dM_began_21 fO_M_286 sh_80 rfl rfl ?_
    refine wq_re (x := (gI (sI M 87 (gI M 80 8) x1) 80 8)) (y := (gI M 80 8)) rfl ?_
    refine wq_iconst (pc := 24) dM_began_24 rfl ?_
    refine wq_iadd (pc := 25) dM_began_25 ?_
    refine wq_re (x := (wr (gI M 80 8 + 1))) (y := (gI M 80 8 + 1)) (Eq.trans (wr_eq (by omega) (by omega)) (by omega)) ?_
    refine wq_putI (pc := 26) (z := 8) dM_began_26 fW_M_286 sh_80 rfl rfl ?_
    refine wq_return (pc := 29) dM_began_29 trivial ?_
    exact H
set_option maxRecDepth 20000 in
theorem B_M_hasOwn_0 {x0 x1 : Int} {M : Mm} {Q : Mm → Option Mv → Prop} (H : ((x0 = 0 → Q M (some (vI 1))) ∧ (x0 = 1 → ((¬ x1 = 1 → Q M (some (vI 0))) ∧ (x1 = 1 → Q M (some (vI 1))))) ∧ (x0 = 2 → ((x1 = 0 → Q M (some (vI 1))) ∧ (¬ x1 = 0 → ((¬ x1 = 3 → Q M (some (vI 0))) ∧ (x1 = 3 → Q M (some (vI 1))))))) ∧ (x0 = 3 → ((x1 = 2 → Q M (some (vI 1))) ∧ (¬ x1 = 2 → ((¬ x1 = 0 → Q M (some (vI 0))) ∧ (x1 = 0 → Q M (some (vI 1))))))) ∧ (x0 = 4 → ((¬ x1 = 3 → Q M (some (vI 0))) ∧ (x1 = 3 → Q M (some (vI 1))))) ∧ (¬ x0 = 0 ∧ ¬ x0 = 1 ∧ ¬ x0 = 2 ∧ ¬ x0 = 3 ∧ ¬ x0 = 4 → ((x1 = 2 → Q M (some (vI 1))) ∧ (¬ x1 = 2 → ((¬ x1 = 1 → Q M (some (vI 0))) ∧ (x1 = 1 → Q M (some (vI 1))))))))) : Wq 1 0 0 mM_hasOwn 0 [iI x0, iI x1] [] M Q := by
  refine wq_iload_n (pc := 0) dM_hasOwn_0 rfl rfl ?_
  by_cases c1 : x0 = 0
  · refine wq_tabIn (pc := 1) (tgt := 36) dM_hasOwn_1 (by rw [c1]; decide) (by rw [c1]; decide) (by rw [c1]; rfl) (by decide) ?_
    have H := H.1 c1
    refine wq_iconst (pc := 36) dM_hasOwn_36 rfl ?_
    refine wq_ireturn (pc := 37) dM_hasOwn_37 (Or.inr rfl) ?_
    exact H
  by_cases c2 : x0 = 1
  · refine wq_tabIn (pc := 1) (tgt := 38) dM_hasOwn_1 (by rw [c2]; decide) (by rw [c2]; decide) (by rw [c2]; rfl) (by decide) ?_
    have H := H.2.1 c2
    refine wq_iload_n (pc := 38) dM_hasOwn_38 rfl rfl ?_
    refine wq_iconst (pc := 39) dM_hasOwn_39 rfl ?_
    refine wq_icmp_ne (pc := 40) (tgt := 47) dM_hasOwn_40 (by decide) (fun c3 => ?_) (fun c3 => ?_)
    · have H := H.1 c3
      refine wq_iconst (pc := 47) dM_hasOwn_47 rfl ?_
      refine wq_ireturn (pc := 48) dM_hasOwn_48 (Or.inl rfl) ?_
      exact H
    · have H := H.2 c3
      refine wq_iconst (pc := 43) dM_hasOwn_43 rfl ?_
      refine wq_goto (pc := 44) (tgt := 48) dM_hasOwn_44 (by decide) ?_
      refine wq_ireturn (pc := 48) dM_hasOwn_48 (Or.inr rfl) ?_
      exact H
  by_cases c4 : x0 = 2
  · refine wq_tabIn (pc := 1) (tgt := 49) dM_hasOwn_1 (by rw [c4]; decide) (by rw [c4]; decide) (by rw [c4]; rfl) (by decide) ?_
    have H := H.2.2.1 c4
    refine wq_iload_n (pc := 49) dM_hasOwn_49 rfl rfl ?_
    refine wq_if_eq (pc := 50) (tgt := 58) dM_hasOwn_50 (by decide) (fun c5 => ?_) (fun c5 => ?_)
    · have H := H.1 c5
      refine wq_iconst (pc := 58) dM_hasOwn_58 rfl ?_
      refine wq_goto (pc := 59) (tgt := 63) dM_hasOwn_59 (by decide) ?_
      refine wq_ireturn (pc := 63) dM_hasOwn_63 (Or.inr rfl) ?_
      exact H
    · have H := H.2 c5
      refine wq_iload_n (pc := 53) dM_hasOwn_53 rfl rfl ?_
      refine wq_iconst (pc := 54) dM_hasOwn_54 rfl ?_
      refine wq_icmp_ne (pc := 55) (tgt := 62) dM_hasOwn_55 (by decide) (fun c6 => ?_) (fun c6 => ?_)
      · have H := H.1 c6
        refine wq_iconst (pc := 62) dM_hasOwn_62 rfl ?_
        refine wq_ireturn (pc := 63) dM_hasOwn_63 (Or.inl rfl) ?_
        exact H
      · have H := H.2 c6
        refine wq_iconst (pc := 58) dM_hasOwn_58 rfl ?_
        refine wq_goto (pc := 59) (tgt := 63) dM_hasOwn_59 (by decide) ?_
        refine wq_ireturn (pc := 63) dM_hasOwn_63 (Or.inr rfl) ?_
        exact H
  by_cases c7 : x0 = 3
  · refine wq_tabIn (pc := 1) (tgt := 64) dM_hasOwn_1 (by rw [c7]; decide) (by rw [c7]; decide) (by rw [c7]; rfl) (by decide) ?_
    have H := H.2.2.2.1 c7
    refine wq_iload_n (pc := 64) dM_hasOwn_64 rfl rfl ?_
    refine wq_iconst (pc := 65) dM_hasOwn_65 rfl ?_
    refine wq_icmp_eq (pc := 66) (tgt := 73) dM_hasOwn_66 (by decide) (fun c8 => ?_) (fun c8 => ?_)
    · have H := H.1 c8
      refine wq_iconst (pc := 73) dM_hasOwn_73 rfl ?_
      refine wq_goto (pc := 74) (tgt := 78) dM_hasOwn_74 (by decide) ?_
      refine wq_ireturn (pc := 78) dM_hasOwn_78 (Or.inr rfl) ?_
      exact H
    · have H := H.2 c8
      refine wq_iload_n (pc := 69) dM_hasOwn_69 rfl rfl ?_
      refine wq_if_ne (pc := 70) (tgt := 77) dM_hasOwn_70 (by decide) (fun c9 => ?_) (fun c9 => ?_)
      · have H := H.1 c9
        refine wq_iconst (pc := 77) dM_hasOwn_77 rfl ?_
        refine wq_ireturn (pc := 78) dM_hasOwn_78 (Or.inl rfl) ?_
        exact H
      · have H := H.2 c9
        refine wq_iconst (pc := 73) dM_hasOwn_73 rfl ?_
        refine wq_goto (pc := 74) (tgt := 78) dM_hasOwn_74 (by decide) ?_
        refine wq_ireturn (pc := 78) dM_hasOwn_78 (Or.inr rfl) ?_
        exact H
  by_cases c10 : x0 = 4
  · refine wq_tabIn (pc := 1) (tgt := 79) dM_hasOwn_1 (by rw [c10]; decide) (by rw [c10]; decide) (by rw [c10]; rfl) (by decide) ?_
    have H := H.2.2.2.2.1 c10
    refine wq_iload_n (pc := 79) dM_hasOwn_79 rfl rfl ?_
    refine wq_iconst (pc := 80) dM_hasOwn_80 rfl ?_
    refine wq_icmp_ne (pc := 81) (tgt := 88) dM_hasOwn_81 (by decide) (fun c11 => ?_) (fun c11 => ?_)
    · have H := H.1 c11
      refine wq_iconst (pc := 88) dM_hasOwn_88 rfl ?_
      refine wq_ireturn (pc := 89) dM_hasOwn_89 (Or.inl rfl) ?_
      exact H
    · have H := H.2 c11
      refine wq_iconst (pc := 84) dM_hasOwn_84 rfl ?_
      refine wq_goto (pc := 85) (tgt := 89) dM_hasOwn_85 (by decide) ?_
      refine wq_ireturn (pc := 89) dM_hasOwn_89 (Or.inr rfl) ?_
      exact H
  refine wq_tabOut (pc := 1) (tgt := 90) dM_hasOwn_1 (by omega) (by decide) ?_
  have H := H.2.2.2.2.2 (by omega)
  refine wq_iload_n (pc := 90) dM_hasOwn_90 rfl rfl ?_
  refine wq_iconst (pc := 91) dM_hasOwn_91 rfl ?_
  refine wq_icmp_eq (pc := 92) (tgt := 100) dM_hasOwn_92 (by decide) (fun c13 => ?_) (fun c13 => ?_)
  · have H := H.1 c13
    refine wq_iconst (pc := 100) dM_hasOwn_100 rfl ?_
    refine wq_goto (pc := 101) (tgt := 105) dM_hasOwn_101 (by decide) ?_
    refine wq_ireturn (pc := 105) dM_hasOwn_105 (Or.inr rfl) ?_
    exact H
  · have H := H.2 c13
    refine wq_iload_n (pc := 95) dM_hasOwn_95 rfl rfl ?_
    refine wq_iconst (pc := 96) dM_hasOwn_96 rfl ?_
    refine wq_icmp_ne (pc := 97) (tgt := 104) dM_hasOwn_97 (by decide) (fun c14 => ?_) (fun c14 => ?_)
    · have H := H.1 c14
      refine wq_iconst (pc := 104) dM_hasOwn_104 rfl ?_
      refine wq_ireturn (pc := 105) dM_hasOwn_105 (Or.inl rfl) ?_
      exact H
    · have H := H.2 c14
      refine wq_iconst (pc := 100) dM_hasOwn_100 rfl ?_
      refine wq_goto (pc := 101) (tgt := 105) dM_hasOwn_101 (by decide) ?_
      refine wq_ireturn (pc := 105) dM_hasOwn_105 (Or.inr rfl) ?_
      exact H
set_option maxRecDepth 20000 in
theorem B_M_voiced_0 {d : Nat} {x1 x2 : Int} {M : Mm} {Q : Mm → Option Mv → Prop} (hS : RefOK M) (H : ((0 ≤ 10 + 3 * gI M 80 24 ∧ 10 + 3 * gI M 80 24 < 1993) ∧ Wq (d + 2) 0 0 mM_bodyFrom 0 [iR 80, iI (gI M 81 (10 + 3 * gI M 80 24)), iI x1, iI x2, none] [] M (fun M' v => Wq (d + 3) 0 0 mM_voiced 14 [iR 80, iI x1, iI x2] (v.toList ++ []) M' Q))) : Wq (d + 3) 0 0 mM_voiced 0 [iR 80, iI x1, iI x2] [] M Q := by
  obtain ⟨s1, H⟩ := H
  refine wq_aload_n (pc := 0) dM_voiced_0 rfl rfl ?_
  refine wq_aload_n (pc := 1) dM_voiced_1 rfl rfl ?_
  refine wq_aload_n (pc := 2) dM_voiced_2 rfl rfl ?_
  refine wq_getI (pc := 3) (z := 24) dM_voiced_3 fO_M_289 sh_80 rfl rfl ?_
  refine wq_callV (d' := 1) (pc := 6) (as := [vI (gI M 80 24)]) (rest := [vR 80]) (lo' := [iR 80, iI (gI M 80 24)]) dM_voiced_6 mO_M_kindOf lV_M_88 sh_80 (by decide) cl_11 rfl rfl rfl rfl rfl rfl ?_
  refine sp_M_kindOf hS s1 ?_
  show Wq (d + 3) 0 0 mM_voiced 9 [iR 80, iI x1, iI x2] [vI (gI M 81 (10 + 3 * gI M 80 24)), vR 80] M _
  refine wq_iload_n (pc := 9) dM_voiced_9 rfl rfl ?_
  refine wq_iload_n (pc := 10) dM_voiced_10 rfl rfl ?_
  refine wq_callV (d' := (d + 2)) (pc := 11) (as := [vI (gI M 81 (10 + 3 * gI M 80 24)), vI x1, vI x2]) (rest := []) (lo' := [iR 80, iI (gI M 81 (10 + 3 * gI M 80 24)), iI x1, iI x2, none]) dM_voiced_11 mO_M_bodyFrom lV_M_292 sh_80 (by decide) cl_11 rfl rfl rfl rfl rfl (blt_d d) ?_
  exact H

set_option maxRecDepth 20000 in
theorem B_M_voiced_14 {d : Nat} {x1 x2 y0 : Int} {M : Mm} {Q : Mm → Option Mv → Prop} (H : Q M (some (vI y0))) : Wq (d + 3) 0 0 mM_voiced 14 [iR 80, iI x1, iI x2] [vI y0] M Q := by
  refine wq_ireturn (pc := 14) dM_voiced_14 trivial ?_
  exact H
set_option maxRecDepth 20000 in
theorem B_M_bodyFrom_0 {d : Nat} {x1 x2 x3 : Int} {M : Mm} {Q : Mm → Option Mv → Prop} (H : Wq (d + 3) 0 0 mM_bodyFrom 3 [iR 80, iI x1, iI x2, iI x3, iI x1] [] M Q) : Wq (d + 3) 0 0 mM_bodyFrom 0 [iR 80, iI x1, iI x2, iI x3, none] [] M Q := by
  refine wq_iload_n (pc := 0) dM_bodyFrom_0 rfl rfl ?_
  refine wq_istore (pc := 1) (lo' := [iR 80, iI x1, iI x2, iI x3, iI x1]) dM_bodyFrom_1 rfl rfl ?_
  exact H

set_option maxRecDepth 20000 in
theorem B_M_bodyFrom_3 {d : Nat} {x1 x2 x3 x4 : Int} {M : Mm} {Q : Mm → Option Mv → Prop} (H : Wq 1 0 0 mM_hasOwn 0 [iI x4, iI x2] [] M (fun M' v => Wq (d + 3) 0 0 mM_bodyFrom 9 [iR 80, iI x1, iI x2, iI x3, iI x4] (v.toList ++ []) M' Q)) : Wq (d + 3) 0 0 mM_bodyFrom 3 [iR 80, iI x1, iI x2, iI x3, iI x4] [] M Q := by
  refine wq_iload (pc := 3) dM_bodyFrom_3 rfl ?_
  refine wq_iload_n (pc := 5) dM_bodyFrom_5 rfl rfl ?_
  refine wq_callS (d' := 1) (pc := 6) (as := [vI x4, vI x2]) (rest := []) (lo' := [iI x4, iI x2]) dM_bodyFrom_6 mO_M_hasOwn lS_M_295 rfl rfl rfl rfl rfl rfl ?_
  exact H

set_option maxRecDepth 20000 in
theorem B_M_bodyFrom_9 {d : Nat} {x1 x2 x3 x4 y0 : Int} {M : Mm} {Q : Mm → Option Mv → Prop} (H : ((¬ y0 = 0 → Wq (d + 2) 0 0 mM_body 0 [iR 80, iI x4, iI x2, iI x3, none, none] [] M (fun M' v => Wq (d + 3) 0 0 mM_bodyFrom 30 [iR 80, iI x1, iI x2, iI x3, iI x4] (v.toList ++ []) M' Q)) ∧ (y0 = 0 → Wq (d + 3) 0 0 mM_bodyFrom 3 [iR 80, iI x1, iI x2, iI x3, iI (aboveF x4)] [] M Q))) : Wq (d + 3) 0 0 mM_bodyFrom 9 [iR 80, iI x1, iI x2, iI x3, iI x4] [vI y0] M Q := by
  refine wq_if_ne (pc := 9) (tgt := 22) dM_bodyFrom_9 (by decide) (fun c1 => ?_) (fun c1 => ?_)
  · have H := H.1 c1
    refine wq_aload_n (pc := 22) dM_bodyFrom_22 rfl rfl ?_
    refine wq_iload (pc := 23) dM_bodyFrom_23 rfl ?_
    refine wq_iload_n (pc := 25) dM_bodyFrom_25 rfl rfl ?_
    refine wq_iload_n (pc := 26) dM_bodyFrom_26 rfl rfl ?_
    refine wq_callV (d' := (d + 2)) (pc := 27) (as := [vI x4, vI x2, vI x3]) (rest := []) (lo' := [iR 80, iI x4, iI x2, iI x3, none, none]) dM_bodyFrom_27 mO_M_body lV_M_298 sh_80 (by decide) cl_11 rfl rfl rfl rfl rfl (blt_d d) ?_
    exact H
  · have H := H.2 c1
    refine wq_iload (pc := 12) dM_bodyFrom_12 rfl ?_
    refine wq_callS (d' := 1) (pc := 14) (as := [vI x4]) (rest := []) (lo' := [iI x4]) dM_bodyFrom_14 mO_M_above lS_M_91 rfl rfl rfl rfl rfl rfl ?_
    refine sp_M_above ?_
    show Wq (d + 3) 0 0 mM_bodyFrom 17 [iR 80, iI x1, iI x2, iI x3, iI x4] [vI (aboveF x4)] M _
    refine wq_istore (pc := 17) (lo' := [iR 80, iI x1, iI x2, iI x3, iI (aboveF x4)]) dM_bodyFrom_17 rfl rfl ?_
    refine wq_goto (pc := 19) (tgt := 3) dM_bodyFrom_19 (by decide) ?_
    exact H

set_option maxRecDepth 20000 in
theorem B_M_bodyFrom_30 {d : Nat} {x1 x2 x3 x4 y0 : Int} {M : Mm} {Q : Mm → Option Mv → Prop} (H : Q M (some (vI y0))) : Wq (d + 3) 0 0 mM_bodyFrom 30 [iR 80, iI x1, iI x2, iI x3, iI x4] [vI y0] M Q := by
  refine wq_ireturn (pc := 30) dM_bodyFrom_30 trivial ?_
  exact H
set_option maxRecDepth 20000 in
theorem B_M_body_0 {d : Nat} {x1 x2 x3 : Int} {M : Mm} {Q : Mm → Option Mv → Prop} (hS : RefOK M) (H : ((0 ≤ wr (wr (10 + wr (3 * gI M 80 24)) + 2) ∧ wr (wr (10 + wr (3 * gI M 80 24)) + 2) < 1993) ∧ ((wr (wr (4 * x1) + x2) = 0 → Wq 1 0 0 mM_began 0 [iR 80, iI 10] [] M (fun M' v => Wq (d + 3) 0 0 mM_body 134 [iR 80, iI x1, iI x2, iI x3, iI (gI M 81 (wr (wr (10 + wr (3 * gI M 80 24)) + 2))), none] (v.toList ++ []) M' Q)) ∧ (wr (wr (4 * x1) + x2) = 1 → Wq 1 0 0 mM_began 0 [iR 80, iI 11] [] M (fun M' v => Wq (d + 3) 0 0 mM_body 145 [iR 80, iI x1, iI x2, iI x3, iI (gI M 81 (wr (wr (10 + wr (3 * gI M 80 24)) + 2))), none] (v.toList ++ []) M' Q)) ∧ (wr (wr (4 * x1) + x2) = 2 → Wq 1 0 0 mM_began 0 [iR 80, iI 12] [] M (fun M' v => Wq (d + 3) 0 0 mM_body 160 [iR 80, iI x1, iI x2, iI x3, iI (gI M 81 (wr (wr (10 + wr (3 * gI M 80 24)) + 2))), none] (v.toList ++ []) M' Q)) ∧ (wr (wr (4 * x1) + x2) = 3 → Wq 1 0 0 mM_began 0 [iR 80, iI 13] [] M (fun M' v => Wq (d + 3) 0 0 mM_body 173 [iR 80, iI x1, iI x2, iI x3, iI (gI M 81 (wr (wr (10 + wr (3 * gI M 80 24)) + 2))), none] (v.toList ++ []) M' Q)) ∧ (wr (wr (4 * x1) + x2) = 5 → Wq 1 0 0 mM_began 0 [iR 80, iI 20] [] M (fun M' v => Wq (d + 3) 0 0 mM_body 197 [iR 80, iI x1, iI x2, iI x3, iI (gI M 81 (wr (wr (10 + wr (3 * gI M 80 24)) + 2))), none] (v.toList ++ []) M' Q)) ∧ (wr (wr (4 * x1) + x2) = 8 → Wq 1 0 0 mM_began 0 [iR 80, iI 30] [] M (fun M' v => Wq (d + 3) 0 0 mM_body 222 [iR 80, iI x1, iI x2, iI x3, iI (gI M 81 (wr (wr (10 + wr (3 * gI M 80 24)) + 2))), none] (v.toList ++ []) M' Q)) ∧ (wr (wr (4 * x1) + x2) = 11 → Wq 1 0 0 mM_began 0 [iR 80, iI 31] [] M (fun M' v => Wq (d + 3) 0 0 mM_body 241 [iR 80, iI x1, iI x2, iI x3, iI (gI M 81 (wr (wr (10 + wr (3 * gI M 80 24)) + 2))), none] (v.toList ++ []) M' Q)) ∧ (wr (wr (4 * x1) + x2) = 12 → Wq 1 0 0 mM_began 0 [iR 80, iI 41] [] M (fun M' v => Wq (d + 3) 0 0 mM_body 273 [iR 80, iI x1, iI x2, iI x3, iI (gI M 81 (wr (wr (10 + wr (3 * gI M 80 24)) + 2))), none] (v.toList ++ []) M' Q)) ∧ (wr (wr (4 * x1) + x2) = 14 → Wq 1 0 0 mM_began 0 [iR 80, iI 40] [] M (fun M' v => Wq (d + 3) 0 0 mM_body 257 [iR 80, iI x1, iI x2, iI x3, iI (gI M 81 (wr (wr (10 + wr (3 * gI M 80 24)) + 2))), none] (v.toList ++ []) M' Q)) ∧ (wr (wr (4 * x1) + x2) = 19 → Wq 1 0 0 mM_began 0 [iR 80, iI 50] [] M (fun M' v => Wq (d + 3) 0 0 mM_body 290 [iR 80, iI x1, iI x2, iI x3, iI (gI M 81 (wr (wr (10 + wr (3 * gI M 80 24)) + 2))), none] (v.toList ++ []) M' Q)) ∧ (wr (wr (4 * x1) + x2) = 22 → Wq 1 0 0 mM_began 0 [iR 80, iI 60] [] M (fun M' v => Wq (d + 3) 0 0 mM_body 315 [iR 80, iI x1, iI x2, iI x3, iI (gI M 81 (wr (wr (10 + wr (3 * gI M 80 24)) + 2))), none] (v.toList ++ []) M' Q)) ∧ (¬ wr (wr (4 * x1) + x2) = 0 ∧ ¬ wr (wr (4 * x1) + x2) = 1 ∧ ¬ wr (wr (4 * x1) + x2) = 2 ∧ ¬ wr (wr (4 * x1) + x2) = 3 ∧ ¬ wr (wr (4 * x1) + x2) = 5 ∧ ¬ wr (wr (4 * x1) + x2) = 8 ∧ ¬ wr (wr (4 * x1) + x2) = 11 ∧ ¬ wr (wr (4 * x1) + x2) = 12 ∧ ¬ wr (wr (4 * x1) + x2) = 14 ∧ ¬ wr (wr (4 * x1) + x2) = 19 ∧ ¬ wr (wr (4 * x1) + x2) = 22 → Wq 1 0 0 mM_began 0 [iR 80, iI 61] [] M (fun M' v => Wq (d + 3) 0 0 mM_body 334 [iR 80, iI x1, iI x2, iI x3, iI (gI M 81 (wr (wr (10 + wr (3 * gI M 80 24)) + 2))), none] (v.toList ++ []) M' Q))))) : Wq (d + 3) 0 0 mM_body 0 [iR 80, iI x1, iI x2, iI x3, none, none] [] M Q := by
  obtain ⟨s1, H⟩ := H
  refine wq_aload_n (pc := 0) dM_body_0 rfl rfl ?_
  refine wq_getR (pc := 1) (z := 0) (b := 81) dM_body_1 fO_M_9 sh_80 rfl rfl (rf_80_0 hS) ?_
  refine wq_bipush (pc := 4) dM_body_4 rfl ?_
  refine wq_iconst (pc := 6) dM_body_6 rfl ?_
  refine wq_aload_n (pc := 7) dM_body_7 rfl rfl ?_
  refine wq_getI (pc := 8) (z := 24) dM_body_8 fO_M_289 sh_80 rfl rfl ?_
  refine wq_imul (pc := 11) dM_body_11 ?_
  refine wq_iadd (pc := 12) dM_body_12 ?_
  refine wq_iconst (pc := 13) dM_body_13 rfl ?_
  refine wq_iadd (pc := 14) dM_body_14 ?_
  refine wq_iald (pc := 15) dM_body_15 sh_81 s1.1 s1.2 ?_
  refine wq_istore (pc := 16) (lo' := [iR 80, iI x1, iI x2, iI x3, iI (gI M 81 (wr (wr (10 + wr (3 * gI M 80 24)) + 2))), none]) dM_body_16 rfl rfl ?_
  refine wq_iconst (pc := 18) dM_body_18 rfl ?_
  refine wq_iload_n (pc := 19) dM_body_19 rfl rfl ?_
  refine wq_imul (pc := 20) dM_body_20 ?_
  refine wq_iload_n (pc := 21) dM_body_21 rfl rfl ?_
  refine wq_iadd (pc := 22) dM_body_22 ?_
  by_cases c2 : wr (wr (4 * x1) + x2) = 0
  · refine wq_tabIn (pc := 23) (tgt := 128) dM_body_23 (by rw [c2]; decide) (by rw [c2]; decide) (by rw [c2]; rfl) (by decide) ?_
    have H := H.1 c2
    refine wq_aload_n (pc := 128) dM_body_128 rfl rfl ?_
    refine wq_bipush (pc := 129) dM_body_129 rfl ?_
    refine wq_callV (d' := 1) (pc := 131) (as := [vI 10]) (rest := []) (lo' := [iR 80, iI 10]) dM_body_131 mO_M_began lV_M_301 sh_80 (by decide) cl_11 rfl rfl rfl rfl rfl rfl ?_
    exact H
  by_cases c3 : wr (wr (4 * x1) + x2) = 1
  · refine wq_tabIn (pc := 23) (tgt := 139) dM_body_23 (by rw [c3]; decide) (by rw [c3]; decide) (by rw [c3]; rfl) (by decide) ?_
    have H := H.2.1 c3
    refine wq_aload_n (pc := 139) dM_body_139 rfl rfl ?_
    refine wq_bipush (pc := 140) dM_body_140 rfl ?_
    refine wq_callV (d' := 1) (pc := 142) (as := [vI 11]) (rest := []) (lo' := [iR 80, iI 11]) dM_body_142 mO_M_began lV_M_301 sh_80 (by decide) cl_11 rfl rfl rfl rfl rfl rfl ?_
    exact H
  by_cases c4 : wr (wr (4 * x1) + x2) = 2
  · refine wq_tabIn (pc := 23) (tgt := 154) dM_body_23 (by rw [c4]; decide) (by rw [c4]; decide) (by rw [c4]; rfl) (by decide) ?_
    have H := H.2.2.1 c4
    refine wq_aload_n (pc := 154) dM_body_154 rfl rfl ?_
    refine wq_bipush (pc := 155) dM_body_155 rfl ?_
    refine wq_callV (d' := 1) (pc := 157) (as := [vI 12]) (rest := []) (lo' := [iR 80, iI 12]) dM_body_157 mO_M_began lV_M_301 sh_80 (by decide) cl_11 rfl rfl rfl rfl rfl rfl ?_
    exact H
  by_cases c5 : wr (wr (4 * x1) + x2) = 3
  · refine wq_tabIn (pc := 23) (tgt := 167) dM_body_23 (by rw [c5]; decide) (by rw [c5]; decide) (by rw [c5]; rfl) (by decide) ?_
    have H := H.2.2.2.1 c5
    refine wq_aload_n (pc := 167) dM_body_167 rfl rfl ?_
    refine wq_bipush (pc := 168) dM_body_168 rfl ?_
    refine wq_callV (d' := 1) (pc := 170) (as := [vI 13]) (rest := []) (lo' := [iR 80, iI 13]) dM_body_170 mO_M_began lV_M_301 sh_80 (by decide) cl_11 rfl rfl rfl rfl rfl rfl ?_
    exact H
  by_cases c6 : wr (wr (4 * x1) + x2) = 5
  · refine wq_tabIn (pc := 23) (tgt := 191) dM_body_23 (by rw [c6]; decide) (by rw [c6]; decide) (by rw [c6]; rfl) (by decide) ?_
    have H := H.2.2.2.2.1 c6
    refine wq_aload_n (pc := 191) dM_body_191 rfl rfl ?_
    refine wq_bipush (pc := 192) dM_body_192 rfl ?_
    refine wq_callV (d' := 1) (pc := 194) (as := [vI 20]) (rest := []) (lo' := [iR 80, iI 20]) dM_body_194 mO_M_began lV_M_301 sh_80 (by decide) cl_11 rfl rfl rfl rfl rfl rfl ?_
    exact H
  by_cases c7 : wr (wr (4 * x1) + x2) = 8
  · refine wq_tabIn (pc := 23) (tgt := 216) dM_body_23 (by rw [c7]; decide) (by rw [c7]; decide) (by rw [c7]; rfl) (by decide) ?_
    have H := H.2.2.2.2.2.1 c7
    refine wq_aload_n (pc := 216) dM_body_216 rfl rfl ?_
    refine wq_bipush (pc := 217) dM_body_217 rfl ?_
    refine wq_callV (d' := 1) (pc := 219) (as := [vI 30]) (rest := []) (lo' := [iR 80, iI 30]) dM_body_219 mO_M_began lV_M_301 sh_80 (by decide) cl_11 rfl rfl rfl rfl rfl rfl ?_
    exact H
  by_cases c8 : wr (wr (4 * x1) + x2) = 11
  · refine wq_tabIn (pc := 23) (tgt := 235) dM_body_23 (by rw [c8]; decide) (by rw [c8]; decide) (by rw [c8]; rfl) (by decide) ?_
    have H := H.2.2.2.2.2.2.1 c8
    refine wq_aload_n (pc := 235) dM_body_235 rfl rfl ?_
    refine wq_bipush (pc := 236) dM_body_236 rfl ?_
    refine wq_callV (d' := 1) (pc := 238) (as := [vI 31]) (rest := []) (lo' := [iR 80, iI 31]) dM_body_238 mO_M_began lV_M_301 sh_80 (by decide) cl_11 rfl rfl rfl rfl rfl rfl ?_
    exact H
  by_cases c9 : wr (wr (4 * x1) + x2) = 12
  · refine wq_tabIn (pc := 23) (tgt := 267) dM_body_23 (by rw [c9]; decide) (by rw [c9]; decide) (by rw [c9]; rfl) (by decide) ?_
    have H := H.2.2.2.2.2.2.2.1 c9
    refine wq_aload_n (pc := 267) dM_body_267 rfl rfl ?_
    refine wq_bipush (pc := 268) dM_body_268 rfl ?_
    refine wq_callV (d' := 1) (pc := 270) (as := [vI 41]) (rest := []) (lo' := [iR 80, iI 41]) dM_body_270 mO_M_began lV_M_301 sh_80 (by decide) cl_11 rfl rfl rfl rfl rfl rfl ?_
    exact H
  by_cases c10 : wr (wr (4 * x1) + x2) = 14
  · refine wq_tabIn (pc := 23) (tgt := 251) dM_body_23 (by rw [c10]; decide) (by rw [c10]; decide) (by rw [c10]; rfl) (by decide) ?_
    have H := H.2.2.2.2.2.2.2.2.1 c10
    refine wq_aload_n (pc := 251) dM_body_251 rfl rfl ?_
    refine wq_bipush (pc := 252) dM_body_252 rfl ?_
    refine wq_callV (d' := 1) (pc := 254) (as := [vI 40]) (rest := []) (lo' := [iR 80, iI 40]) dM_body_254 mO_M_began lV_M_301 sh_80 (by decide) cl_11 rfl rfl rfl rfl rfl rfl ?_
    exact H
  by_cases c11 : wr (wr (4 * x1) + x2) = 19
  · refine wq_tabIn (pc := 23) (tgt := 284) dM_body_23 (by rw [c11]; decide) (by rw [c11]; decide) (by rw [c11]; rfl) (by decide) ?_
    have H := H.2.2.2.2.2.2.2.2.2.1 c11
    refine wq_aload_n (pc := 284) dM_body_284 rfl rfl ?_
    refine wq_bipush (pc := 285) dM_body_285 rfl ?_
    refine wq_callV (d' := 1) (pc := 287) (as := [vI 50]) (rest := []) (lo' := [iR 80, iI 50]) dM_body_287 mO_M_began lV_M_301 sh_80 (by decide) cl_11 rfl rfl rfl rfl rfl rfl ?_
    exact H
  by_cases c12 : wr (wr (4 * x1) + x2) = 22
  · refine wq_tabIn (pc := 23) (tgt := 309) dM_body_23 (by rw [c12]; decide) (by rw [c12]; decide) (by rw [c12]; rfl) (by decide) ?_
    have H := H.2.2.2.2.2.2.2.2.2.2.1 c12
    refine wq_aload_n (pc := 309) dM_body_309 rfl rfl ?_
    refine wq_bipush (pc := 310) dM_body_310 rfl ?_
    refine wq_callV (d' := 1) (pc := 312) (as := [vI 60]) (rest := []) (lo' := [iR 80, iI 60]) dM_body_312 mO_M_began lV_M_301 sh_80 (by decide) cl_11 rfl rfl rfl rfl rfl rfl ?_
    exact H
  by_cases c13 : wr (wr (4 * x1) + x2) < 0 ∨ 22 < wr (wr (4 * x1) + x2)
  · refine wq_tabOut (pc := 23) (tgt := 328) dM_body_23 c13 (by decide) ?_
    have H := H.2.2.2.2.2.2.2.2.2.2.2 (by omega)
    refine wq_aload_n (pc := 328) dM_body_328 rfl rfl ?_
    refine wq_bipush (pc := 329) dM_body_329 rfl ?_
    refine wq_callV (d' := 1) (pc := 331) (as := [vI 61]) (rest := []) (lo' := [iR 80, iI 61]) dM_body_331 mO_M_began lV_M_301 sh_80 (by decide) cl_11 rfl rfl rfl rfl rfl rfl ?_
    exact H
  have c13r : wr (wr (4 * x1) + x2) = 4 ∨ wr (wr (4 * x1) + x2) = 6 ∨ wr (wr (4 * x1) + x2) = 7 ∨ wr (wr (4 * x1) + x2) = 9 ∨ wr (wr (4 * x1) + x2) = 10 ∨ wr (wr (4 * x1) + x2) = 13 ∨ wr (wr (4 * x1) + x2) = 15 ∨ wr (wr (4 * x1) + x2) = 16 ∨ wr (wr (4 * x1) + x2) = 17 ∨ wr (wr (4 * x1) + x2) = 18 ∨ wr (wr (4 * x1) + x2) = 20 ∨ wr (wr (4 * x1) + x2) = 21 := by omega
  rcases c13r with c13r | c13r | c13r | c13r | c13r | c13r | c13r | c13r | c13r | c13r | c13r | c13r
  · refine wq_tabIn (pc := 23) (tgt := 328) dM_body_23 (by rw [c13r]; decide) (by rw [c13r]; decide) (by rw [c13r]; rfl) (by decide) ?_
    have H := H.2.2.2.2.2.2.2.2.2.2.2 (by omega)
    refine wq_aload_n (pc := 328) dM_body_328 rfl rfl ?_
    refine wq_bipush (pc := 329) dM_body_329 rfl ?_
    refine wq_callV (d' := 1) (pc := 331) (as := [vI 61]) (rest := []) (lo' := [iR 80, iI 61]) dM_body_331 mO_M_began lV_M_301 sh_80 (by decide) cl_11 rfl rfl rfl rfl rfl rfl ?_
    exact H
  · refine wq_tabIn (pc := 23) (tgt := 328) dM_body_23 (by rw [c13r]; decide) (by rw [c13r]; decide) (by rw [c13r]; rfl) (by decide) ?_
    have H := H.2.2.2.2.2.2.2.2.2.2.2 (by omega)
    refine wq_aload_n (pc := 328) dM_body_328 rfl rfl ?_
    refine wq_bipush (pc := 329) dM_body_329 rfl ?_
    refine wq_callV (d' := 1) (pc := 331) (as := [vI 61]) (rest := []) (lo' := [iR 80, iI 61]) dM_body_331 mO_M_began lV_M_301 sh_80 (by decide) cl_11 rfl rfl rfl rfl rfl rfl ?_
    exact H
  · refine wq_tabIn (pc := 23) (tgt := 328) dM_body_23 (by rw [c13r]; decide) (by rw [c13r]; decide) (by rw [c13r]; rfl) (by decide) ?_
    have H := H.2.2.2.2.2.2.2.2.2.2.2 (by omega)
    refine wq_aload_n (pc := 328) dM_body_328 rfl rfl ?_
    refine wq_bipush (pc := 329) dM_body_329 rfl ?_
    refine wq_callV (d' := 1) (pc := 331) (as := [vI 61]) (rest := []) (lo' := [iR 80, iI 61]) dM_body_331 mO_M_began lV_M_301 sh_80 (by decide) cl_11 rfl rfl rfl rfl rfl rfl ?_
    exact H
  · refine wq_tabIn (pc := 23) (tgt := 328) dM_body_23 (by rw [c13r]; decide) (by rw [c13r]; decide) (by rw [c13r]; rfl) (by decide) ?_
    have H := H.2.2.2.2.2.2.2.2.2.2.2 (by omega)
    refine wq_aload_n (pc := 328) dM_body_328 rfl rfl ?_
    refine wq_bipush (pc := 329) dM_body_329 rfl ?_
    refine wq_callV (d' := 1) (pc := 331) (as := [vI 61]) (rest := []) (lo' := [iR 80, iI 61]) dM_body_331 mO_M_began lV_M_301 sh_80 (by decide) cl_11 rfl rfl rfl rfl rfl rfl ?_
    exact H
  · refine wq_tabIn (pc := 23) (tgt := 328) dM_body_23 (by rw [c13r]; decide) (by rw [c13r]; decide) (by rw [c13r]; rfl) (by decide) ?_
    have H := H.2.2.2.2.2.2.2.2.2.2.2 (by omega)
    refine wq_aload_n (pc := 328) dM_body_328 rfl rfl ?_
    refine wq_bipush (pc := 329) dM_body_329 rfl ?_
    refine wq_callV (d' := 1) (pc := 331) (as := [vI 61]) (rest := []) (lo' := [iR 80, iI 61]) dM_body_331 mO_M_began lV_M_301 sh_80 (by decide) cl_11 rfl rfl rfl rfl rfl rfl ?_
    exact H
  · refine wq_tabIn (pc := 23) (tgt := 328) dM_body_23 (by rw [c13r]; decide) (by rw [c13r]; decide) (by rw [c13r]; rfl) (by decide) ?_
    have H := H.2.2.2.2.2.2.2.2.2.2.2 (by omega)
    refine wq_aload_n (pc := 328) dM_body_328 rfl rfl ?_
    refine wq_bipush (pc := 329) dM_body_329 rfl ?_
    refine wq_callV (d' := 1) (pc := 331) (as := [vI 61]) (rest := []) (lo' := [iR 80, iI 61]) dM_body_331 mO_M_began lV_M_301 sh_80 (by decide) cl_11 rfl rfl rfl rfl rfl rfl ?_
    exact H
  · refine wq_tabIn (pc := 23) (tgt := 328) dM_body_23 (by rw [c13r]; decide) (by rw [c13r]; decide) (by rw [c13r]; rfl) (by decide) ?_
    have H := H.2.2.2.2.2.2.2.2.2.2.2 (by omega)
    refine wq_aload_n (pc := 328) dM_body_328 rfl rfl ?_
    refine wq_bipush (pc := 329) dM_body_329 rfl ?_
    refine wq_callV (d' := 1) (pc := 331) (as := [vI 61]) (rest := []) (lo' := [iR 80, iI 61]) dM_body_331 mO_M_began lV_M_301 sh_80 (by decide) cl_11 rfl rfl rfl rfl rfl rfl ?_
    exact H
  · refine wq_tabIn (pc := 23) (tgt := 328) dM_body_23 (by rw [c13r]; decide) (by rw [c13r]; decide) (by rw [c13r]; rfl) (by decide) ?_
    have H := H.2.2.2.2.2.2.2.2.2.2.2 (by omega)
    refine wq_aload_n (pc := 328) dM_body_328 rfl rfl ?_
    refine wq_bipush (pc := 329) dM_body_329 rfl ?_
    refine wq_callV (d' := 1) (pc := 331) (as := [vI 61]) (rest := []) (lo' := [iR 80, iI 61]) dM_body_331 mO_M_began lV_M_301 sh_80 (by decide) cl_11 rfl rfl rfl rfl rfl rfl ?_
    exact H
  · refine wq_tabIn (pc := 23) (tgt := 328) dM_body_23 (by rw [c13r]; decide) (by rw [c13r]; decide) (by rw [c13r]; rfl) (by decide) ?_
    have H := H.2.2.2.2.2.2.2.2.2.2.2 (by omega)
    refine wq_aload_n (pc := 328) dM_body_328 rfl rfl ?_
    refine wq_bipush (pc := 329) dM_body_329 rfl ?_
    refine wq_callV (d' := 1) (pc := 331) (as := [vI 61]) (rest := []) (lo' := [iR 80, iI 61]) dM_body_331 mO_M_began lV_M_301 sh_80 (by decide) cl_11 rfl rfl rfl rfl rfl rfl ?_
    exact H
  · refine wq_tabIn (pc := 23) (tgt := 328) dM_body_23 (by rw [c13r]; decide) (by rw [c13r]; decide) (by rw [c13r]; rfl) (by decide) ?_
    have H := H.2.2.2.2.2.2.2.2.2.2.2 (by omega)
    refine wq_aload_n (pc := 328) dM_body_328 rfl rfl ?_
    refine wq_bipush (pc := 329) dM_body_329 rfl ?_
    refine wq_callV (d' := 1) (pc := 331) (as := [vI 61]) (rest := []) (lo' := [iR 80, iI 61]) dM_body_331 mO_M_began lV_M_301 sh_80 (by decide) cl_11 rfl rfl rfl rfl rfl rfl ?_
    exact H
  · refine wq_tabIn (pc := 23) (tgt := 328) dM_body_23 (by rw [c13r]; decide) (by rw [c13r]; decide) (by rw [c13r]; rfl) (by decide) ?_
    have H := H.2.2.2.2.2.2.2.2.2.2.2 (by omega)
    refine wq_aload_n (pc := 328) dM_body_328 rfl rfl ?_
    refine wq_bipush (pc := 329) dM_body_329 rfl ?_
    refine wq_callV (d' := 1) (pc := 331) (as := [vI 61]) (rest := []) (lo' := [iR 80, iI 61]) dM_body_331 mO_M_began lV_M_301 sh_80 (by decide) cl_11 rfl rfl rfl rfl rfl rfl ?_
    exact H
  · refine wq_tabIn (pc := 23) (tgt := 328) dM_body_23 (by rw [c13r]; decide) (by rw [c13r]; decide) (by rw [c13r]; rfl) (by decide) ?_
    have H := H.2.2.2.2.2.2.2.2.2.2.2 (by omega)
    refine wq_aload_n (pc := 328) dM_body_328 rfl rfl ?_
    refine wq_bipush (pc := 329) dM_body_329 rfl ?_
    refine wq_callV (d' := 1) (pc := 331) (as := [vI 61]) (rest := []) (lo' := [iR 80, iI 61]) dM_body_331 mO_M_began lV_M_301 sh_80 (by decide) cl_11 rfl rfl rfl rfl rfl rfl ?_
    exact H

set_option maxRecDepth 20000 in
theorem B_M_body_134 {d : Nat} {x1 x2 x3 x4 : Int} {M : Mm} {Q : Mm → Option Mv → Prop} (H : Q M (some (vI (wr (x3 + x4))))) : Wq (d + 3) 0 0 mM_body 134 [iR 80, iI x1, iI x2, iI x3, iI x4, none] [] M Q := by
  refine wq_iload_n (pc := 134) dM_body_134 rfl rfl ?_
  refine wq_iload (pc := 135) dM_body_135 rfl ?_
  refine wq_iadd (pc := 137) dM_body_137 ?_
  refine wq_ireturn (pc := 138) dM_body_138 trivial ?_
  exact H

set_option maxRecDepth 20000 in
theorem B_M_body_145 {d : Nat} {x1 x2 x3 x4 : Int} {M : Mm} {Q : Mm → Option Mv → Prop} (H : Wq (d + 2) 0 0 mM_voiced 0 [iR 80, iI 0, iI x3] [] M (fun M' v => Wq (d + 3) 0 0 mM_body 151 [iR 80, iI x1, iI x2, iI x3, iI x4, none] (v.toList ++ []) M' Q)) : Wq (d + 3) 0 0 mM_body 145 [iR 80, iI x1, iI x2, iI x3, iI x4, none] [] M Q := by
  refine wq_aload_n (pc := 145) dM_body_145 rfl rfl ?_
  refine wq_iconst (pc := 146) dM_body_146 rfl ?_
  refine wq_iload_n (pc := 147) dM_body_147 rfl rfl ?_
  refine wq_callV (d' := (d + 2)) (pc := 148) (as := [vI 0, vI x3]) (rest := []) (lo' := [iR 80, iI 0, iI x3]) dM_body_148 mO_M_voiced lV_M_304 sh_80 (by decide) cl_11 rfl rfl rfl rfl rfl (blt_d d) ?_
  exact H

set_option maxRecDepth 20000 in
theorem B_M_body_151 {d : Nat} {x1 x2 x3 x4 y0 : Int} {M : Mm} {Q : Mm → Option Mv → Prop} (H : Q M (some (vI (wr (y0 * 2))))) : Wq (d + 3) 0 0 mM_body 151 [iR 80, iI x1, iI x2, iI x3, iI x4, none] [vI y0] M Q := by
  refine wq_iconst (pc := 151) dM_body_151 rfl ?_
  refine wq_imul (pc := 152) dM_body_152 ?_
  refine wq_ireturn (pc := 153) dM_body_153 trivial ?_
  exact H

set_option maxRecDepth 20000 in
theorem B_M_body_160 {d : Nat} {x1 x2 x3 x4 : Int} {M : Mm} {Q : Mm → Option Mv → Prop} (H : Q M (some (vI (wr (x3 - gI M 80 24))))) : Wq (d + 3) 0 0 mM_body 160 [iR 80, iI x1, iI x2, iI x3, iI x4, none] [] M Q := by
  refine wq_iload_n (pc := 160) dM_body_160 rfl rfl ?_
  refine wq_aload_n (pc := 161) dM_body_161 rfl rfl ?_
  refine wq_getI (pc := 162) (z := 24) dM_body_162 fO_M_289 sh_80 rfl rfl ?_
  refine wq_isub (pc := 165) dM_body_165 ?_
  refine wq_ireturn (pc := 166) dM_body_166 trivial ?_
  exact H

set_option maxRecDepth 20000 in
theorem B_M_body_173 {d : Nat} {x1 x2 x3 x4 : Int} {M : Mm} {Q : Mm → Option Mv → Prop} (H : Wq (d + 2) 0 0 mM_voiced 0 [iR 80, iI 1, iI x3] [] M (fun M' v => Wq (d + 3) 0 0 mM_body 179 [iR 80, iI x1, iI x2, iI x3, iI x4, none] (v.toList ++ []) M' Q)) : Wq (d + 3) 0 0 mM_body 173 [iR 80, iI x1, iI x2, iI x3, iI x4, none] [] M Q := by
  refine wq_aload_n (pc := 173) dM_body_173 rfl rfl ?_
  refine wq_iconst (pc := 174) dM_body_174 rfl ?_
  refine wq_iload_n (pc := 175) dM_body_175 rfl rfl ?_
  refine wq_callV (d' := (d + 2)) (pc := 176) (as := [vI 1, vI x3]) (rest := []) (lo' := [iR 80, iI 1, iI x3]) dM_body_176 mO_M_voiced lV_M_304 sh_80 (by decide) cl_11 rfl rfl rfl rfl rfl (blt_d d) ?_
  exact H

set_option maxRecDepth 20000 in
theorem B_M_body_179 {d : Nat} {x1 x2 x3 x4 y0 : Int} {M : Mm} {Q : Mm → Option Mv → Prop} (H : Wq (d + 2) 0 0 mM_voiced 0 [iR 80, iI 2, iI x3] [] M (fun M' v => Wq (d + 3) 0 0 mM_body 189 [iR 80, iI x1, iI x2, iI x3, iI x4, iI y0] (v.toList ++ [vI y0]) M' Q)) : Wq (d + 3) 0 0 mM_body 179 [iR 80, iI x1, iI x2, iI x3, iI x4, none] [vI y0] M Q := by
  refine wq_istore (pc := 179) (lo' := [iR 80, iI x1, iI x2, iI x3, iI x4, iI y0]) dM_body_179 rfl rfl ?_
  refine wq_iload (pc := 181) dM_body_181 rfl ?_
  refine wq_aload_n (pc := 183) dM_body_183 rfl rfl ?_
  refine wq_iconst (pc := 184) dM_body_184 rfl ?_
  refine wq_iload_n (pc := 185) dM_body_185 rfl rfl ?_
  refine wq_callV (d' := (d + 2)) (pc := 186) (as := [vI 2, vI x3]) (rest := [vI y0]) (lo' := [iR 80, iI 2, iI x3]) dM_body_186 mO_M_voiced lV_M_304 sh_80 (by decide) cl_11 rfl rfl rfl rfl rfl (blt_d d) ?_
  exact H

set_option maxRecDepth 20000 in
theorem B_M_body_189 {d : Nat} {x1 x2 x3 x4 x5 y0 y1 : Int} {M : Mm} {Q : Mm → Option Mv → Prop} (H : Q M (some (vI (bXor y1 y0)))) : Wq (d + 3) 0 0 mM_body 189 [iR 80, iI x1, iI x2, iI x3, iI x4, iI x5] [vI y0, vI y1] M Q := by
  refine wq_ixor (pc := 189) dM_body_189 ?_
  refine wq_ireturn (pc := 190) dM_body_190 trivial ?_
  exact H

set_option maxRecDepth 20000 in
theorem B_M_body_197 {d : Nat} {x1 x2 x3 x4 : Int} {M : Mm} {Q : Mm → Option Mv → Prop} (H : Wq (d + 2) 0 0 mM_bodyFrom 0 [iR 80, iI 0, iI 1, iI x3, none] [] M (fun M' v => Wq (d + 3) 0 0 mM_body 204 [iR 80, iI x1, iI x2, iI x3, iI x4, none] (v.toList ++ []) M' Q)) : Wq (d + 3) 0 0 mM_body 197 [iR 80, iI x1, iI x2, iI x3, iI x4, none] [] M Q := by
  refine wq_aload_n (pc := 197) dM_body_197 rfl rfl ?_
  refine wq_iconst (pc := 198) dM_body_198 rfl ?_
  refine wq_iconst (pc := 199) dM_body_199 rfl ?_
  refine wq_iload_n (pc := 200) dM_body_200 rfl rfl ?_
  refine wq_callV (d' := (d + 2)) (pc := 201) (as := [vI 0, vI 1, vI x3]) (rest := []) (lo' := [iR 80, iI 0, iI 1, iI x3, none]) dM_body_201 mO_M_bodyFrom lV_M_292 sh_80 (by decide) cl_11 rfl rfl rfl rfl rfl (blt_d d) ?_
  exact H

set_option maxRecDepth 20000 in
theorem B_M_body_204 {d : Nat} {x1 x2 x3 x4 y0 : Int} {M : Mm} {Q : Mm → Option Mv → Prop} (H : Wq (d + 2) 0 0 mM_voiced 0 [iR 80, iI 2, iI x3] [] M (fun M' v => Wq (d + 3) 0 0 mM_body 214 [iR 80, iI x1, iI x2, iI x3, iI x4, iI y0] (v.toList ++ [vI y0]) M' Q)) : Wq (d + 3) 0 0 mM_body 204 [iR 80, iI x1, iI x2, iI x3, iI x4, none] [vI y0] M Q := by
  refine wq_istore (pc := 204) (lo' := [iR 80, iI x1, iI x2, iI x3, iI x4, iI y0]) dM_body_204 rfl rfl ?_
  refine wq_iload (pc := 206) dM_body_206 rfl ?_
  refine wq_aload_n (pc := 208) dM_body_208 rfl rfl ?_
  refine wq_iconst (pc := 209) dM_body_209 rfl ?_
  refine wq_iload_n (pc := 210) dM_body_210 rfl rfl ?_
  refine wq_callV (d' := (d + 2)) (pc := 211) (as := [vI 2, vI x3]) (rest := [vI y0]) (lo' := [iR 80, iI 2, iI x3]) dM_body_211 mO_M_voiced lV_M_304 sh_80 (by decide) cl_11 rfl rfl rfl rfl rfl (blt_d d) ?_
  exact H

set_option maxRecDepth 20000 in
theorem B_M_body_214 {d : Nat} {x1 x2 x3 x4 x5 y0 y1 : Int} {M : Mm} {Q : Mm → Option Mv → Prop} (H : Q M (some (vI (wr (y1 - y0))))) : Wq (d + 3) 0 0 mM_body 214 [iR 80, iI x1, iI x2, iI x3, iI x4, iI x5] [vI y0, vI y1] M Q := by
  refine wq_isub (pc := 214) dM_body_214 ?_
  refine wq_ireturn (pc := 215) dM_body_215 trivial ?_
  exact H

set_option maxRecDepth 20000 in
theorem B_M_body_222 {d : Nat} {x1 x2 x3 x4 : Int} {M : Mm} {Q : Mm → Option Mv → Prop} (H : Wq (d + 2) 0 0 mM_bodyFrom 0 [iR 80, iI 0, iI 0, iI x3, none] [] M (fun M' v => Wq (d + 3) 0 0 mM_body 229 [iR 80, iI x1, iI x2, iI x3, iI x4, none] (v.toList ++ []) M' Q)) : Wq (d + 3) 0 0 mM_body 222 [iR 80, iI x1, iI x2, iI x3, iI x4, none] [] M Q := by
  refine wq_aload_n (pc := 222) dM_body_222 rfl rfl ?_
  refine wq_iconst (pc := 223) dM_body_223 rfl ?_
  refine wq_iconst (pc := 224) dM_body_224 rfl ?_
  refine wq_iload_n (pc := 225) dM_body_225 rfl rfl ?_
  refine wq_callV (d' := (d + 2)) (pc := 226) (as := [vI 0, vI 0, vI x3]) (rest := []) (lo' := [iR 80, iI 0, iI 0, iI x3, none]) dM_body_226 mO_M_bodyFrom lV_M_292 sh_80 (by decide) cl_11 rfl rfl rfl rfl rfl (blt_d d) ?_
  exact H

set_option maxRecDepth 20000 in
theorem B_M_body_229 {d : Nat} {x1 x2 x3 x4 y0 : Int} {M : Mm} {Q : Mm → Option Mv → Prop} (H : Q M (some (vI (wr (y0 + gI M 80 24))))) : Wq (d + 3) 0 0 mM_body 229 [iR 80, iI x1, iI x2, iI x3, iI x4, none] [vI y0] M Q := by
  refine wq_aload_n (pc := 229) dM_body_229 rfl rfl ?_
  refine wq_getI (pc := 230) (z := 24) dM_body_230 fO_M_289 sh_80 rfl rfl ?_
  refine wq_iadd (pc := 233) dM_body_233 ?_
  refine wq_ireturn (pc := 234) dM_body_234 trivial ?_
  exact H

set_option maxRecDepth 20000 in
theorem B_M_body_241 {d : Nat} {x1 x2 x3 x4 : Int} {M : Mm} {Q : Mm → Option Mv → Prop} (H : Wq (d + 2) 0 0 mM_bodyFrom 0 [iR 80, iI 0, iI 3, iI (wr (x3 + 1)), none] [] M (fun M' v => Wq (d + 3) 0 0 mM_body 250 [iR 80, iI x1, iI x2, iI x3, iI x4, none] (v.toList ++ []) M' Q)) : Wq (d + 3) 0 0 mM_body 241 [iR 80, iI x1, iI x2, iI x3, iI x4, none] [] M Q := by
  refine wq_aload_n (pc := 241) dM_body_241 rfl rfl ?_
  refine wq_iconst (pc := 242) dM_body_242 rfl ?_
  refine wq_iconst (pc := 243) dM_body_243 rfl ?_
  refine wq_iload_n (pc := 244) dM_body_244 rfl rfl ?_
  refine wq_iconst (pc := 245) dM_body_245 rfl ?_
  refine wq_iadd (pc := 246) dM_body_246 ?_
  refine wq_callV (d' := (d + 2)) (pc := 247) (as := [vI 0, vI 3, vI (wr (x3 + 1))]) (rest := []) (lo' := [iR 80, iI 0, iI 3, iI (wr (x3 + 1)), none]) dM_body_247 mO_M_bodyFrom lV_M_292 sh_80 (by decide) cl_11 rfl rfl rfl rfl rfl (blt_d d) ?_
  exact H

set_option maxRecDepth 20000 in
theorem B_M_body_250 {d : Nat} {x1 x2 x3 x4 y0 : Int} {M : Mm} {Q : Mm → Option Mv → Prop} (H : Q M (some (vI y0))) : Wq (d + 3) 0 0 mM_body 250 [iR 80, iI x1, iI x2, iI x3, iI x4, none] [vI y0] M Q := by
  refine wq_ireturn (pc := 250) dM_body_250 trivial ?_
  exact H

set_option maxRecDepth 20000 in
theorem B_M_body_257 {d : Nat} {x1 x2 x3 x4 : Int} {M : Mm} {Q : Mm → Option Mv → Prop} (H : Wq (d + 2) 0 0 mM_bodyFrom 0 [iR 80, iI 2, iI 2, iI x3, none] [] M (fun M' v => Wq (d + 3) 0 0 mM_body 264 [iR 80, iI x1, iI x2, iI x3, iI x4, none] (v.toList ++ []) M' Q)) : Wq (d + 3) 0 0 mM_body 257 [iR 80, iI x1, iI x2, iI x3, iI x4, none] [] M Q := by
  refine wq_aload_n (pc := 257) dM_body_257 rfl rfl ?_
  refine wq_iconst (pc := 258) dM_body_258 rfl ?_
  refine wq_iconst (pc := 259) dM_body_259 rfl ?_
  refine wq_iload_n (pc := 260) dM_body_260 rfl rfl ?_
  refine wq_callV (d' := (d + 2)) (pc := 261) (as := [vI 2, vI 2, vI x3]) (rest := []) (lo' := [iR 80, iI 2, iI 2, iI x3, none]) dM_body_261 mO_M_bodyFrom lV_M_292 sh_80 (by decide) cl_11 rfl rfl rfl rfl rfl (blt_d d) ?_
  exact H

set_option maxRecDepth 20000 in
theorem B_M_body_264 {d : Nat} {x1 x2 x3 x4 y0 : Int} {M : Mm} {Q : Mm → Option Mv → Prop} (H : Q M (some (vI (wr (y0 * 3))))) : Wq (d + 3) 0 0 mM_body 264 [iR 80, iI x1, iI x2, iI x3, iI x4, none] [vI y0] M Q := by
  refine wq_iconst (pc := 264) dM_body_264 rfl ?_
  refine wq_imul (pc := 265) dM_body_265 ?_
  refine wq_ireturn (pc := 266) dM_body_266 trivial ?_
  exact H

set_option maxRecDepth 20000 in
theorem B_M_body_273 {d : Nat} {x1 x2 x3 x4 : Int} {M : Mm} {Q : Mm → Option Mv → Prop} (H : Wq (d + 2) 0 0 mM_bodyFrom 0 [iR 80, iI 2, iI 0, iI (wr (x3 - x4)), none] [] M (fun M' v => Wq (d + 3) 0 0 mM_body 283 [iR 80, iI x1, iI x2, iI x3, iI x4, none] (v.toList ++ []) M' Q)) : Wq (d + 3) 0 0 mM_body 273 [iR 80, iI x1, iI x2, iI x3, iI x4, none] [] M Q := by
  refine wq_aload_n (pc := 273) dM_body_273 rfl rfl ?_
  refine wq_iconst (pc := 274) dM_body_274 rfl ?_
  refine wq_iconst (pc := 275) dM_body_275 rfl ?_
  refine wq_iload_n (pc := 276) dM_body_276 rfl rfl ?_
  refine wq_iload (pc := 277) dM_body_277 rfl ?_
  refine wq_isub (pc := 279) dM_body_279 ?_
  refine wq_callV (d' := (d + 2)) (pc := 280) (as := [vI 2, vI 0, vI (wr (x3 - x4))]) (rest := []) (lo' := [iR 80, iI 2, iI 0, iI (wr (x3 - x4)), none]) dM_body_280 mO_M_bodyFrom lV_M_292 sh_80 (by decide) cl_11 rfl rfl rfl rfl rfl (blt_d d) ?_
  exact H

set_option maxRecDepth 20000 in
theorem B_M_body_283 {d : Nat} {x1 x2 x3 x4 y0 : Int} {M : Mm} {Q : Mm → Option Mv → Prop} (H : Q M (some (vI y0))) : Wq (d + 3) 0 0 mM_body 283 [iR 80, iI x1, iI x2, iI x3, iI x4, none] [vI y0] M Q := by
  refine wq_ireturn (pc := 283) dM_body_283 trivial ?_
  exact H

set_option maxRecDepth 20000 in
theorem B_M_body_290 {d : Nat} {x1 x2 x3 x4 : Int} {M : Mm} {Q : Mm → Option Mv → Prop} (H : Wq (d + 2) 0 0 mM_voiced 0 [iR 80, iI 2, iI x3] [] M (fun M' v => Wq (d + 3) 0 0 mM_body 296 [iR 80, iI x1, iI x2, iI x3, iI x4, none] (v.toList ++ []) M' Q)) : Wq (d + 3) 0 0 mM_body 290 [iR 80, iI x1, iI x2, iI x3, iI x4, none] [] M Q := by
  refine wq_aload_n (pc := 290) dM_body_290 rfl rfl ?_
  refine wq_iconst (pc := 291) dM_body_291 rfl ?_
  refine wq_iload_n (pc := 292) dM_body_292 rfl rfl ?_
  refine wq_callV (d' := (d + 2)) (pc := 293) (as := [vI 2, vI x3]) (rest := []) (lo' := [iR 80, iI 2, iI x3]) dM_body_293 mO_M_voiced lV_M_304 sh_80 (by decide) cl_11 rfl rfl rfl rfl rfl (blt_d d) ?_
  exact H

set_option maxRecDepth 20000 in
theorem B_M_body_296 {d : Nat} {x1 x2 x3 x4 y0 : Int} {M : Mm} {Q : Mm → Option Mv → Prop} (H : Wq (d + 2) 0 0 mM_bodyFrom 0 [iR 80, iI 0, iI 3, iI x3, none] [] M (fun M' v => Wq (d + 3) 0 0 mM_body 307 [iR 80, iI x1, iI x2, iI x3, iI x4, iI y0] (v.toList ++ [vI y0]) M' Q)) : Wq (d + 3) 0 0 mM_body 296 [iR 80, iI x1, iI x2, iI x3, iI x4, none] [vI y0] M Q := by
  refine wq_istore (pc := 296) (lo' := [iR 80, iI x1, iI x2, iI x3, iI x4, iI y0]) dM_body_296 rfl rfl ?_
  refine wq_iload (pc := 298) dM_body_298 rfl ?_
  refine wq_aload_n (pc := 300) dM_body_300 rfl rfl ?_
  refine wq_iconst (pc := 301) dM_body_301 rfl ?_
  refine wq_iconst (pc := 302) dM_body_302 rfl ?_
  refine wq_iload_n (pc := 303) dM_body_303 rfl rfl ?_
  refine wq_callV (d' := (d + 2)) (pc := 304) (as := [vI 0, vI 3, vI x3]) (rest := [vI y0]) (lo' := [iR 80, iI 0, iI 3, iI x3, none]) dM_body_304 mO_M_bodyFrom lV_M_292 sh_80 (by decide) cl_11 rfl rfl rfl rfl rfl (blt_d d) ?_
  exact H

set_option maxRecDepth 20000 in
theorem B_M_body_307 {d : Nat} {x1 x2 x3 x4 x5 y0 y1 : Int} {M : Mm} {Q : Mm → Option Mv → Prop} (H : Q M (some (vI (wr (y1 - y0))))) : Wq (d + 3) 0 0 mM_body 307 [iR 80, iI x1, iI x2, iI x3, iI x4, iI x5] [vI y0, vI y1] M Q := by
  refine wq_isub (pc := 307) dM_body_307 ?_
  refine wq_ireturn (pc := 308) dM_body_308 trivial ?_
  exact H

set_option maxRecDepth 20000 in
theorem B_M_body_315 {d : Nat} {x1 x2 x3 x4 : Int} {M : Mm} {Q : Mm → Option Mv → Prop} (H : Wq (d + 2) 0 0 mM_bodyFrom 0 [iR 80, iI 2, iI 2, iI (wr (x3 + gI M 80 24)), none] [] M (fun M' v => Wq (d + 3) 0 0 mM_body 327 [iR 80, iI x1, iI x2, iI x3, iI x4, none] (v.toList ++ []) M' Q)) : Wq (d + 3) 0 0 mM_body 315 [iR 80, iI x1, iI x2, iI x3, iI x4, none] [] M Q := by
  refine wq_aload_n (pc := 315) dM_body_315 rfl rfl ?_
  refine wq_iconst (pc := 316) dM_body_316 rfl ?_
  refine wq_iconst (pc := 317) dM_body_317 rfl ?_
  refine wq_iload_n (pc := 318) dM_body_318 rfl rfl ?_
  refine wq_aload_n (pc := 319) dM_body_319 rfl rfl ?_
  refine wq_getI (pc := 320) (z := 24) dM_body_320 fO_M_289 sh_80 rfl rfl ?_
  refine wq_iadd (pc := 323) dM_body_323 ?_
  refine wq_callV (d' := (d + 2)) (pc := 324) (as := [vI 2, vI 2, vI (wr (x3 + gI M 80 24))]) (rest := []) (lo' := [iR 80, iI 2, iI 2, iI (wr (x3 + gI M 80 24)), none]) dM_body_324 mO_M_bodyFrom lV_M_292 sh_80 (by decide) cl_11 rfl rfl rfl rfl rfl (blt_d d) ?_
  exact H

set_option maxRecDepth 20000 in
theorem B_M_body_327 {d : Nat} {x1 x2 x3 x4 y0 : Int} {M : Mm} {Q : Mm → Option Mv → Prop} (H : Q M (some (vI y0))) : Wq (d + 3) 0 0 mM_body 327 [iR 80, iI x1, iI x2, iI x3, iI x4, none] [vI y0] M Q := by
  refine wq_ireturn (pc := 327) dM_body_327 trivial ?_
  exact H

set_option maxRecDepth 20000 in
theorem B_M_body_334 {d : Nat} {x1 x2 x3 x4 : Int} {M : Mm} {Q : Mm → Option Mv → Prop} (H : Wq (d + 2) 0 0 mM_bodyFrom 0 [iR 80, iI 2, iI 1, iI x3, none] [] M (fun M' v => Wq (d + 3) 0 0 mM_body 341 [iR 80, iI x1, iI x2, iI x3, iI x4, none] (v.toList ++ []) M' Q)) : Wq (d + 3) 0 0 mM_body 334 [iR 80, iI x1, iI x2, iI x3, iI x4, none] [] M Q := by
  refine wq_aload_n (pc := 334) dM_body_334 rfl rfl ?_
  refine wq_iconst (pc := 335) dM_body_335 rfl ?_
  refine wq_iconst (pc := 336) dM_body_336 rfl ?_
  refine wq_iload_n (pc := 337) dM_body_337 rfl rfl ?_
  refine wq_callV (d' := (d + 2)) (pc := 338) (as := [vI 2, vI 1, vI x3]) (rest := []) (lo' := [iR 80, iI 2, iI 1, iI x3, none]) dM_body_338 mO_M_bodyFrom lV_M_292 sh_80 (by decide) cl_11 rfl rfl rfl rfl rfl (blt_d d) ?_
  exact H

set_option maxRecDepth 20000 in
theorem B_M_body_341 {d : Nat} {x1 x2 x3 x4 y0 : Int} {M : Mm} {Q : Mm → Option Mv → Prop} (H : Wq (d + 2) 0 0 mM_voiced 0 [iR 80, iI 0, iI x3] [] M (fun M' v => Wq (d + 3) 0 0 mM_body 351 [iR 80, iI x1, iI x2, iI x3, iI x4, iI y0] (v.toList ++ [vI y0]) M' Q)) : Wq (d + 3) 0 0 mM_body 341 [iR 80, iI x1, iI x2, iI x3, iI x4, none] [vI y0] M Q := by
  refine wq_istore (pc := 341) (lo' := [iR 80, iI x1, iI x2, iI x3, iI x4, iI y0]) dM_body_341 rfl rfl ?_
  refine wq_iload (pc := 343) dM_body_343 rfl ?_
  refine wq_aload_n (pc := 345) dM_body_345 rfl rfl ?_
  refine wq_iconst (pc := 346) dM_body_346 rfl ?_
  refine wq_iload_n (pc := 347) dM_body_347 rfl rfl ?_
  refine wq_callV (d' := (d + 2)) (pc := 348) (as := [vI 0, vI x3]) (rest := [vI y0]) (lo' := [iR 80, iI 0, iI x3]) dM_body_348 mO_M_voiced lV_M_304 sh_80 (by decide) cl_11 rfl rfl rfl rfl rfl (blt_d d) ?_
  exact H

set_option maxRecDepth 20000 in
theorem B_M_body_351 {d : Nat} {x1 x2 x3 x4 x5 y0 y1 : Int} {M : Mm} {Q : Mm → Option Mv → Prop} (H : Q M (some (vI (bXor y1 y0)))) : Wq (d + 3) 0 0 mM_body 351 [iR 80, iI x1, iI x2, iI x3, iI x4, iI x5] [vI y0, vI y1] M Q := by
  refine wq_ixor (pc := 351) dM_body_351 ?_
  refine wq_ireturn (pc := 352) dM_body_352 trivial ?_
  exact H
set_option maxRecDepth 20000 in
theorem B_M_voice_0 {x1 x2 x3 : Int} {M : Mm} {Q : Mm → Option Mv → Prop} (hS : RefOK M) (H : (0 ≤ gI M 81 2 ∧ ((0 ≤ x1 ∧ x1 < gI M 81 2 → ((0 ≤ x2 ∧ x2 ≤ 3 → Wq 50 0 0 mM_voiced 0 [iR 80, iI x2, iI x3] [] (sI (sI M 80 8 0) 80 24 x1) (fun M' v => Wq 51 0 0 mM_voice 44 [iR 80, iI x1, iI x2, iI x3] (v.toList ++ []) M' Q)) ∧ (¬ (0 ≤ x2 ∧ x2 ≤ 3) → Q (sI M 83 1 (wr (gI M 83 1 + 1))) (some (vI (-1000001)))))) ∧ (¬ (0 ≤ x1 ∧ x1 < gI M 81 2) → Q (sI M 83 1 (wr (gI M 83 1 + 1))) (some (vI (-1000001))))))) : Wq 51 0 0 mM_voice 0 [iR 80, iI x1, iI x2, iI x3] [] M Q := by
  obtain ⟨s1, H⟩ := H
  refine wq_aload_n (pc := 0) dM_voice_0 rfl rfl ?_
  refine wq_iload_n (pc := 1) dM_voice_1 rfl rfl ?_
  refine wq_iconst (pc := 2) dM_voice_2 rfl ?_
  refine wq_callV (d' := 2) (pc := 3) (as := [vI x1, vI 2]) (rest := []) (lo' := [iR 80, iI x1, iI 2]) dM_voice_3 mO_M_is lV_M_84 sh_80 (by decide) cl_11 rfl rfl rfl rfl rfl rfl ?_
  refine sp_M_is (c := 2) (by decide) hS s1 (fun c2 => ?_) (fun c2 => ?_)
  · have H := H.1 c2
    show Wq 51 0 0 mM_voice 6 [iR 80, iI x1, iI x2, iI x3] [vI 1] M _
    refine wq_if_eq (pc := 6) (tgt := 21) dM_voice_6 (by decide) (fun q => absurd q (by decide)) (fun _ => ?_)
    refine wq_iload_n (pc := 9) dM_voice_9 rfl rfl ?_
    refine wq_i2l (pc := 10) dM_voice_10 ?_
    refine wq_lconst (pc := 11) (x := 0) dM_voice_11 rfl rfl ?_
    refine wq_ldc2 (pc := 12) (z := 3) dM_voice_12 kO_M_72 (by decide) ?_
    refine wq_callS (d' := 1) (pc := 15) (as := [vL x2, vL 0, vL 3]) (rest := []) (lo' := [iL x2, none, iL 0, none, iL 3, none]) dM_voice_15 mO_M_within lS_M_68 rfl rfl rfl rfl rfl rfl ?_
    refine sp_M_within (fun c3 => ?_) (fun c3 => ?_)
    · have H := H.1 c3
      show Wq 51 0 0 mM_voice 18 [iR 80, iI x1, iI x2, iI x3] [vI 1] M _
      refine wq_if_ne (pc := 18) (tgt := 28) dM_voice_18 (by decide) (fun _ => ?_) (fun q => absurd q (by decide))
      refine wq_aload_n (pc := 28) dM_voice_28 rfl rfl ?_
      refine wq_iconst (pc := 29) dM_voice_29 rfl ?_
      refine wq_putI (pc := 30) (z := 8) dM_voice_30 fW_M_286 sh_80 rfl rfl ?_
      refine wq_aload_n (pc := 33) dM_voice_33 rfl rfl ?_
      refine wq_iload_n (pc := 34) dM_voice_34 rfl rfl ?_
      refine wq_putI (pc := 35) (z := 24) dM_voice_35 fW_M_289 sh_80 rfl rfl ?_
      refine wq_aload_n (pc := 38) dM_voice_38 rfl rfl ?_
      refine wq_iload_n (pc := 39) dM_voice_39 rfl rfl ?_
      refine wq_iload_n (pc := 40) dM_voice_40 rfl rfl ?_
      refine wq_callV (d' := 50) (pc := 41) (as := [vI x2, vI x3]) (rest := []) (lo' := [iR 80, iI x2, iI x3]) dM_voice_41 mO_M_voiced lV_M_304 sh_80 (by decide) cl_11 rfl rfl rfl rfl rfl rfl ?_
      exact H
    · have H := H.2 c3
      show Wq 51 0 0 mM_voice 18 [iR 80, iI x1, iI x2, iI x3] [vI 0] M _
      refine wq_if_ne (pc := 18) (tgt := 28) dM_voice_18 (by decide) (fun q => absurd q (by decide)) (fun _ => ?_)
      refine wq_aload_n (pc := 21) dM_voice_21 rfl rfl ?_
      refine wq_ldc (pc := 22) (z := (-1000001)) dM_voice_22 kO_M_78 (by decide) ?_
      refine wq_callV (d' := 1) (pc := 24) (as := [vI (-1000001)]) (rest := []) (lo' := [iR 80, iI ((-1000001))]) dM_voice_24 mO_M_finding lV_M_79 sh_80 (by decide) cl_11 rfl rfl rfl rfl rfl rfl ?_
      refine sp_M_finding (k := 1) (by decide) (by decide) (by decide) hS ?_
      show Wq 51 0 0 mM_voice 27 [iR 80, iI x1, iI x2, iI x3] [vI (-1000001)] (sI M 83 1 (wr (gI M 83 1 + 1))) _
      refine wq_ireturn (pc := 27) dM_voice_27 trivial ?_
      exact H
  · have H := H.2 c2
    show Wq 51 0 0 mM_voice 6 [iR 80, iI x1, iI x2, iI x3] [vI 0] M _
    refine wq_if_eq (pc := 6) (tgt := 21) dM_voice_6 (by decide) (fun _ => ?_) (fun q => absurd (by decide) q)
    refine wq_aload_n (pc := 21) dM_voice_21 rfl rfl ?_
    refine wq_ldc (pc := 22) (z := (-1000001)) dM_voice_22 kO_M_78 (by decide) ?_
    refine wq_callV (d' := 1) (pc := 24) (as := [vI (-1000001)]) (rest := []) (lo' := [iR 80, iI ((-1000001))]) dM_voice_24 mO_M_finding lV_M_79 sh_80 (by decide) cl_11 rfl rfl rfl rfl rfl rfl ?_
    refine sp_M_finding (k := 1) (by decide) (by decide) (by decide) hS ?_
    show Wq 51 0 0 mM_voice 27 [iR 80, iI x1, iI x2, iI x3] [vI (-1000001)] (sI M 83 1 (wr (gI M 83 1 + 1))) _
    refine wq_ireturn (pc := 27) dM_voice_27 trivial ?_
    exact H

set_option maxRecDepth 20000 in
theorem B_M_voice_44 {x1 x2 x3 y0 : Int} {M : Mm} {Q : Mm → Option Mv → Prop} (H : Q M (some (vI y0))) : Wq 51 0 0 mM_voice 44 [iR 80, iI x1, iI x2, iI x3] [vI y0] M Q := by
  refine wq_ireturn (pc := 44) dM_voice_44 trivial ?_
  exact H
set_option maxRecDepth 20000 in
theorem B_V_call_0 {d : Nat} {x1 x2 x3 x4 : Int} {M : Mm} {Q : Mm → Option Mv → Prop} (H : Wq (d + 3) 0 0 mV_call 6 [iR 66, iI x1, iI x2, iI x3, iI x4, iI x1, iI 0, none] [] M Q) : Wq (d + 3) 0 0 mV_call 0 [iR 66, iI x1, iI x2, iI x3, iI x4, none, none, none] [] M Q := by
  refine wq_iload_n (pc := 0) dV_call_0 rfl rfl ?_
  refine wq_istore (pc := 1) (lo' := [iR 66, iI x1, iI x2, iI x3, iI x4, iI x1, none, none]) dV_call_1 rfl rfl ?_
  refine wq_iconst (pc := 3) dV_call_3 rfl ?_
  refine wq_istore (pc := 4) (lo' := [iR 66, iI x1, iI x2, iI x3, iI x4, iI x1, iI 0, none]) dV_call_4 rfl rfl ?_
  exact H

set_option maxRecDepth 20000 in
theorem B_V_call_6 {d : Nat} {x1 x2 x3 x4 x5 x6 : Int} {M : Mm} {Q : Mm → Option Mv → Prop} (H : ((6 ≤ x6 → Q M (some (vI 0))) ∧ (¬ 6 ≤ x6 → ((0 ≤ x5 ∧ x5 ≤ 5 → ((0 ≤ x5 * 4 + x2 ∧ x5 * 4 + x2 < 24) ∧ ((gI M 1002 (x5 * 4 + x2) = 0 → (((0 ≤ x5 ∧ x5 < 6) ∧ (-2147483648 ≤ x6 + 1 ∧ x6 + 1 < 2147483648)) ∧ Wq (d + 3) 0 0 mV_call 6 [iR 66, iI x1, iI x2, iI x3, iI x4, iI (gI M 1001 x5), iI (x6 + 1), none] [] M Q)) ∧ (¬ gI M 1002 (x5 * 4 + x2) = 0 → Wq (d + 2) 0 0 mV_speak 0 [iR 66, iI (gI M 1002 (x5 * 4 + x2)), iI x3, iI x4, none] [] M (fun M' v => Wq (d + 3) 0 0 mV_call 47 [iR 66, iI x1, iI x2, iI x3, iI x4, iI x5, iI x6, iI (gI M 1002 (x5 * 4 + x2))] (v.toList ++ []) M' Q))))) ∧ (¬ (0 ≤ x5 ∧ x5 ≤ 5) → Q M (some (vI 0))))))) : Wq (d + 3) 0 0 mV_call 6 [iR 66, iI x1, iI x2, iI x3, iI x4, iI x5, iI x6, none] [] M Q := by
  refine wq_iload (pc := 6) dV_call_6 rfl ?_
  refine wq_bipush (pc := 8) dV_call_8 rfl ?_
  refine wq_icmp_ge (pc := 10) (tgt := 62) dV_call_10 (by decide) (fun c1 => ?_) (fun c1 => ?_)
  · have H := H.1 c1
    refine wq_iconst (pc := 62) dV_call_62 rfl ?_
    refine wq_ireturn (pc := 63) dV_call_63 trivial ?_
    exact H
  · have H := H.2 c1
    refine wq_iload (pc := 13) dV_call_13 rfl ?_
    refine wq_callS (d' := 2) (pc := 15) (as := [vI x5]) (rest := []) (lo' := [iI x5]) dV_call_15 mO_D_isKind lS_V_32 rfl rfl rfl rfl rfl rfl ?_
    refine sp_D_isKind (fun c2 => ?_) (fun c2 => ?_)
    · have H := H.1 c2
      show Wq (d + 3) 0 0 mV_call 18 [iR 66, iI x1, iI x2, iI x3, iI x4, iI x5, iI x6, none] [vI 1] M _
      obtain ⟨s3, H⟩ := H
      refine wq_if_eq (pc := 18) (tgt := 62) dV_call_18 (by decide) (fun q => absurd q (by decide)) (fun _ => ?_)
      refine wq_bodies (pc := 21) dV_call_21 sO_V_36 ?_
      refine wq_iload (pc := 24) dV_call_24 rfl ?_
      refine wq_iconst (pc := 26) dV_call_26 rfl ?_
      refine wq_imul (pc := 27) dV_call_27 ?_
      refine wq_iload_n (pc := 28) dV_call_28 rfl rfl ?_
      refine wq_iadd (pc := 29) dV_call_29 ?_
      refine wq_re (x := (wr (wr (x5 * 4) + x2))) (y := (x5 * 4 + x2)) (by (try simp only [wr_al, wr_ar, wr_sl, wr_sr, wr_ml, wr_mr, wr_nn, wr_ww]); exact Eq.trans (wr_eq (by omega) (by omega)) (by omega)) ?_
      refine wq_iald (pc := 30) dV_call_30 sh_1002 s3.1 s3.2 ?_
      refine wq_istore (pc := 31) (lo' := [iR 66, iI x1, iI x2, iI x3, iI x4, iI x5, iI x6, iI (gI M 1002 (x5 * 4 + x2))]) dV_call_31 rfl rfl ?_
      refine wq_iload (pc := 33) dV_call_33 rfl ?_
      refine wq_if_eq (pc := 35) (tgt := 48) dV_call_35 (by decide) (fun c4 => ?_) (fun c4 => ?_)
      · have H := H.1 c4
        obtain ⟨⟨s5, s6⟩, H⟩ := H
        refine wq_above (pc := 48) dV_call_48 (Or.inr sO_V_43) ?_
        refine wq_iload (pc := 51) dV_call_51 rfl ?_
        refine wq_iald (pc := 53) dV_call_53 sh_1001 s5.1 s5.2 ?_
        refine wq_istore (pc := 54) (lo' := [iR 66, iI x1, iI x2, iI x3, iI x4, iI (gI M 1001 x5), iI x6, iI (gI M 1002 (x5 * 4 + x2))]) dV_call_54 rfl rfl ?_
        refine wq_iinc (pc := 56) (lo' := [iR 66, iI x1, iI x2, iI x3, iI x4, iI (gI M 1001 x5), iI (x6 + 1), iI (gI M 1002 (x5 * 4 + x2))]) dV_call_56 rfl rfl (by rw [show wr (x6 + 1) = x6 + 1 from (Eq.trans (wr_eq (by omega) (by omega)) (by omega))]; rfl) ?_
        refine wq_goto (pc := 59) (tgt := 6) dV_call_59 (by decide) ?_
        refine wq_drop [7] (lo' := [iR 66, iI x1, iI x2, iI x3, iI x4, iI (gI M 1001 x5), iI (x6 + 1), none]) rfl ?_
        exact H
      · have H := H.2 c4
        refine wq_aload_n (pc := 38) dV_call_38 rfl rfl ?_
        refine wq_iload (pc := 39) dV_call_39 rfl ?_
        refine wq_iload_n (pc := 41) dV_call_41 rfl rfl ?_
        refine wq_iload (pc := 42) dV_call_42 rfl ?_
        refine wq_callV (d' := (d + 2)) (pc := 44) (as := [vI (gI M 1002 (x5 * 4 + x2)), vI x3, vI x4]) (rest := []) (lo' := [iR 66, iI (gI M 1002 (x5 * 4 + x2)), iI x3, iI x4, none]) dV_call_44 mO_V_speak lV_V_39 sh_66 (by decide) cl_8 rfl rfl rfl rfl rfl (blt_d d) ?_
        exact H
    · have H := H.2 c2
      show Wq (d + 3) 0 0 mV_call 18 [iR 66, iI x1, iI x2, iI x3, iI x4, iI x5, iI x6, none] [vI 0] M _
      refine wq_if_eq (pc := 18) (tgt := 62) dV_call_18 (by decide) (fun _ => ?_) (fun q => absurd (by decide) q)
      refine wq_iconst (pc := 62) dV_call_62 rfl ?_
      refine wq_ireturn (pc := 63) dV_call_63 trivial ?_
      exact H

set_option maxRecDepth 20000 in
theorem B_V_call_47 {d : Nat} {x1 x2 x3 x4 x5 x6 x7 y0 : Int} {M : Mm} {Q : Mm → Option Mv → Prop} (H : Q M (some (vI y0))) : Wq (d + 3) 0 0 mV_call 47 [iR 66, iI x1, iI x2, iI x3, iI x4, iI x5, iI x6, iI x7] [vI y0] M Q := by
  refine wq_ireturn (pc := 47) dV_call_47 trivial ?_
  exact H
set_option maxRecDepth 20000 in
theorem B_V_speak_0 {d : Nat} {x1 x2 x3 : Int} {M : Mm} {Q : Mm → Option Mv → Prop} (hS : RefOK M) (H : ((x3 < 40 → ((40 ≤ gI M 66 1 → Wq (d + 3) 0 0 mV_speak 37 [iR 66, iI x1, iI x2, iI x3, none] [] M Q) ∧ (¬ 40 ≤ gI M 66 1 → ((0 ≤ gI M 66 1 ∧ gI M 66 1 < 40) ∧ Wq (d + 3) 0 0 mV_speak 37 [iR 66, iI x1, iI x2, iI x3, none] [] (sI (sI M 67 (gI M 66 1) x1) 66 1 (wr (gI M 66 1 + 1))) Q)))) ∧ (¬ x3 < 40 → Q M (some (vI 0))))) : Wq (d + 3) 0 0 mV_speak 0 [iR 66, iI x1, iI x2, iI x3, none] [] M Q := by
  refine wq_iload_n (pc := 0) dV_speak_0 rfl rfl ?_
  refine wq_bipush (pc := 1) dV_speak_1 rfl ?_
  refine wq_icmp_lt (pc := 3) (tgt := 8) dV_speak_3 (by decide) (fun c1 => ?_) (fun c1 => ?_)
  · have H := H.1 c1
    refine wq_aload_n (pc := 8) dV_speak_8 rfl rfl ?_
    refine wq_getI (pc := 9) (z := 1) dV_speak_9 fO_V_15 sh_66 rfl rfl ?_
    refine wq_bipush (pc := 12) dV_speak_12 rfl ?_
    refine wq_icmp_ge (pc := 14) (tgt := 37) dV_speak_14 (by decide) (fun c2 => ?_) (fun c2 => ?_)
    · have H := H.1 c2
      exact H
    · have H := H.2 c2
      obtain ⟨s3, H⟩ := H
      refine wq_aload_n (pc := 17) dV_speak_17 rfl rfl ?_
      refine wq_getR (pc := 18) (z := 0) (b := 67) dV_speak_18 fO_V_9 sh_66 rfl rfl (rf_66_0 hS) ?_
      refine wq_aload_n (pc := 21) dV_speak_21 rfl rfl ?_
      refine wq_getI (pc := 22) (z := 1) dV_speak_22 fO_V_15 sh_66 rfl rfl ?_
      refine wq_iload_n (pc := 25) dV_speak_25 rfl rfl ?_
      refine wq_iast (pc := 26) dV_speak_26 sh_67 (by decide) s3.1 s3.2 ?_
      refine wq_aload_n (pc := 27) dV_speak_27 rfl rfl ?_
      refine wq_dup (pc := 28) dV_speak_28 rfl ?_
      refine wq_getI (pc := 29) (z := 1) dV_speak_29 fO_V_15 sh_66 rfl rfl ?_
      refine wq_re (x := (gI (sI M 67 (gI M 66 1) x1) 66 1)) (y := (gI M 66 1)) rfl ?_
      refine wq_iconst (pc := 32) dV_speak_32 rfl ?_
      refine wq_iadd (pc := 33) dV_speak_33 ?_
      refine wq_putI (pc := 34) (z := 1) dV_speak_34 fW_V_15 sh_66 rfl rfl ?_
      exact H
  · have H := H.2 c1
    refine wq_iconst (pc := 6) dV_speak_6 rfl ?_
    refine wq_ireturn (pc := 7) dV_speak_7 trivial ?_
    exact H

set_option maxRecDepth 20000 in
theorem B_V_speak_37 {d : Nat} {x1 x2 x3 : Int} {M : Mm} {Q : Mm → Option Mv → Prop} (H : ((x1 = 10 → Q M (some (vI (wr (x2 + gI M 66 4))))) ∧ (x1 = 11 → Wq (d + 2) 0 0 mV_call 0 [iR 66, iI (gI M 66 2), iI 0, iI x2, iI (wr (x3 + 1)), none, none, none] [] M (fun M' v => Wq (d + 3) 0 0 mV_speak 167 [iR 66, iI x1, iI x2, iI x3, iI (wr (x3 + 1))] (v.toList ++ []) M' Q)) ∧ (x1 = 12 → Q M (some (vI (wr (x2 - gI M 66 3))))) ∧ (x1 = 13 → Wq (d + 2) 0 0 mV_call 0 [iR 66, iI (gI M 66 2), iI 1, iI x2, iI (wr (x3 + 1)), none, none, none] [] M (fun M' v => Wq (d + 3) 0 0 mV_speak 189 [iR 66, iI x1, iI x2, iI x3, iI (wr (x3 + 1))] (v.toList ++ []) M' Q)) ∧ (x1 = 20 → Wq (d + 2) 0 0 mV_call 0 [iR 66, iI 0, iI 1, iI x2, iI (wr (x3 + 1)), none, none, none] [] M (fun M' v => Wq (d + 3) 0 0 mV_speak 212 [iR 66, iI x1, iI x2, iI x3, iI (wr (x3 + 1))] (v.toList ++ []) M' Q)) ∧ (x1 = 30 → Wq (d + 2) 0 0 mV_call 0 [iR 66, iI 0, iI 0, iI x2, iI (wr (x3 + 1)), none, none, none] [] M (fun M' v => Wq (d + 3) 0 0 mV_speak 235 [iR 66, iI x1, iI x2, iI x3, iI (wr (x3 + 1))] (v.toList ++ []) M' Q)) ∧ (x1 = 31 → Wq (d + 2) 0 0 mV_call 0 [iR 66, iI 0, iI 3, iI (wr (x2 + 1)), iI (wr (x3 + 1)), none, none, none] [] M (fun M' v => Wq (d + 3) 0 0 mV_speak 252 [iR 66, iI x1, iI x2, iI x3, iI (wr (x3 + 1))] (v.toList ++ []) M' Q)) ∧ (x1 = 40 → Wq (d + 2) 0 0 mV_call 0 [iR 66, iI 2, iI 2, iI x2, iI (wr (x3 + 1)), none, none, none] [] M (fun M' v => Wq (d + 3) 0 0 mV_speak 262 [iR 66, iI x1, iI x2, iI x3, iI (wr (x3 + 1))] (v.toList ++ []) M' Q)) ∧ (x1 = 41 → Wq (d + 2) 0 0 mV_call 0 [iR 66, iI 2, iI 0, iI (wr (x2 - gI M 66 4)), iI (wr (x3 + 1)), none, none, none] [] M (fun M' v => Wq (d + 3) 0 0 mV_speak 279 [iR 66, iI x1, iI x2, iI x3, iI (wr (x3 + 1))] (v.toList ++ []) M' Q)) ∧ (x1 = 50 → Wq (d + 2) 0 0 mV_call 0 [iR 66, iI (gI M 66 2), iI 2, iI x2, iI (wr (x3 + 1)), none, none, none] [] M (fun M' v => Wq (d + 3) 0 0 mV_speak 292 [iR 66, iI x1, iI x2, iI x3, iI (wr (x3 + 1))] (v.toList ++ []) M' Q)) ∧ (x1 = 60 → Wq (d + 2) 0 0 mV_call 0 [iR 66, iI 2, iI 2, iI (wr (x2 + gI M 66 3)), iI (wr (x3 + 1)), none, none, none] [] M (fun M' v => Wq (d + 3) 0 0 mV_speak 317 [iR 66, iI x1, iI x2, iI x3, iI (wr (x3 + 1))] (v.toList ++ []) M' Q)) ∧ (x1 = 61 → Wq (d + 2) 0 0 mV_call 0 [iR 66, iI 2, iI 1, iI x2, iI (wr (x3 + 1)), none, none, none] [] M (fun M' v => Wq (d + 3) 0 0 mV_speak 327 [iR 66, iI x1, iI x2, iI x3, iI (wr (x3 + 1))] (v.toList ++ []) M' Q)) ∧ (¬ x1 = 10 ∧ ¬ x1 = 11 ∧ ¬ x1 = 12 ∧ ¬ x1 = 13 ∧ ¬ x1 = 20 ∧ ¬ x1 = 30 ∧ ¬ x1 = 31 ∧ ¬ x1 = 40 ∧ ¬ x1 = 41 ∧ ¬ x1 = 50 ∧ ¬ x1 = 60 ∧ ¬ x1 = 61 → Q M (some (vI 0))))) : Wq (d + 3) 0 0 mV_speak 37 [iR 66, iI x1, iI x2, iI x3, none] [] M Q := by
  refine wq_iload_n (pc := 37) dV_speak_37 rfl rfl ?_
  refine wq_iconst (pc := 38) dV_speak_38 rfl ?_
  refine wq_iadd (pc := 39) dV_speak_39 ?_
  refine wq_istore (pc := 40) (lo' := [iR 66, iI x1, iI x2, iI x3, iI (wr (x3 + 1))]) dV_speak_40 rfl rfl ?_
  refine wq_iload_n (pc := 42) dV_speak_42 rfl rfl ?_
  by_cases c1 : x1 = 10
  · refine wq_look (pc := 43) (off := 105) (tgt := 148) dV_speak_43 (by decide) (by rw [c1] <;> rfl) (by decide) ?_
    have H := H.1 c1
    refine wq_iload_n (pc := 148) dV_speak_148 rfl rfl ?_
    refine wq_aload_n (pc := 149) dV_speak_149 rfl rfl ?_
    refine wq_getI (pc := 150) (z := 4) dV_speak_150 fO_V_25 sh_66 rfl rfl ?_
    refine wq_iadd (pc := 153) dV_speak_153 ?_
    refine wq_ireturn (pc := 154) dV_speak_154 trivial ?_
    exact H
  by_cases c2 : x1 = 11
  · refine wq_look (pc := 43) (off := 112) (tgt := 155) dV_speak_43 (by decide) (by rw [c2] <;> rfl) (by decide) ?_
    have H := H.2.1 c2
    refine wq_aload_n (pc := 155) dV_speak_155 rfl rfl ?_
    refine wq_aload_n (pc := 156) dV_speak_156 rfl rfl ?_
    refine wq_getI (pc := 157) (z := 2) dV_speak_157 fO_V_19 sh_66 rfl rfl ?_
    refine wq_iconst (pc := 160) dV_speak_160 rfl ?_
    refine wq_iload_n (pc := 161) dV_speak_161 rfl rfl ?_
    refine wq_iload (pc := 162) dV_speak_162 rfl ?_
    refine wq_callV (d' := (d + 2)) (pc := 164) (as := [vI (gI M 66 2), vI 0, vI x2, vI (wr (x3 + 1))]) (rest := []) (lo' := [iR 66, iI (gI M 66 2), iI 0, iI x2, iI (wr (x3 + 1)), none, none, none]) dV_speak_164 mO_V_call lV_V_28 sh_66 (by decide) cl_8 rfl rfl rfl rfl rfl (blt_d d) ?_
    exact H
  by_cases c3 : x1 = 12
  · refine wq_look (pc := 43) (off := 127) (tgt := 170) dV_speak_43 (by decide) (by rw [c3] <;> rfl) (by decide) ?_
    have H := H.2.2.1 c3
    refine wq_iload_n (pc := 170) dV_speak_170 rfl rfl ?_
    refine wq_aload_n (pc := 171) dV_speak_171 rfl rfl ?_
    refine wq_getI (pc := 172) (z := 3) dV_speak_172 fO_V_22 sh_66 rfl rfl ?_
    refine wq_isub (pc := 175) dV_speak_175 ?_
    refine wq_ireturn (pc := 176) dV_speak_176 trivial ?_
    exact H
  by_cases c4 : x1 = 13
  · refine wq_look (pc := 43) (off := 134) (tgt := 177) dV_speak_43 (by decide) (by rw [c4] <;> rfl) (by decide) ?_
    have H := H.2.2.2.1 c4
    refine wq_aload_n (pc := 177) dV_speak_177 rfl rfl ?_
    refine wq_aload_n (pc := 178) dV_speak_178 rfl rfl ?_
    refine wq_getI (pc := 179) (z := 2) dV_speak_179 fO_V_19 sh_66 rfl rfl ?_
    refine wq_iconst (pc := 182) dV_speak_182 rfl ?_
    refine wq_iload_n (pc := 183) dV_speak_183 rfl rfl ?_
    refine wq_iload (pc := 184) dV_speak_184 rfl ?_
    refine wq_callV (d' := (d + 2)) (pc := 186) (as := [vI (gI M 66 2), vI 1, vI x2, vI (wr (x3 + 1))]) (rest := []) (lo' := [iR 66, iI (gI M 66 2), iI 1, iI x2, iI (wr (x3 + 1)), none, none, none]) dV_speak_186 mO_V_call lV_V_28 sh_66 (by decide) cl_8 rfl rfl rfl rfl rfl (blt_d d) ?_
    exact H
  by_cases c5 : x1 = 20
  · refine wq_look (pc := 43) (off := 160) (tgt := 203) dV_speak_43 (by decide) (by rw [c5] <;> rfl) (by decide) ?_
    have H := H.2.2.2.2.1 c5
    refine wq_aload_n (pc := 203) dV_speak_203 rfl rfl ?_
    refine wq_iconst (pc := 204) dV_speak_204 rfl ?_
    refine wq_iconst (pc := 205) dV_speak_205 rfl ?_
    refine wq_iload_n (pc := 206) dV_speak_206 rfl rfl ?_
    refine wq_iload (pc := 207) dV_speak_207 rfl ?_
    refine wq_callV (d' := (d + 2)) (pc := 209) (as := [vI 0, vI 1, vI x2, vI (wr (x3 + 1))]) (rest := []) (lo' := [iR 66, iI 0, iI 1, iI x2, iI (wr (x3 + 1)), none, none, none]) dV_speak_209 mO_V_call lV_V_28 sh_66 (by decide) cl_8 rfl rfl rfl rfl rfl (blt_d d) ?_
    exact H
  by_cases c6 : x1 = 30
  · refine wq_look (pc := 43) (off := 183) (tgt := 226) dV_speak_43 (by decide) (by rw [c6] <;> rfl) (by decide) ?_
    have H := H.2.2.2.2.2.1 c6
    refine wq_aload_n (pc := 226) dV_speak_226 rfl rfl ?_
    refine wq_iconst (pc := 227) dV_speak_227 rfl ?_
    refine wq_iconst (pc := 228) dV_speak_228 rfl ?_
    refine wq_iload_n (pc := 229) dV_speak_229 rfl rfl ?_
    refine wq_iload (pc := 230) dV_speak_230 rfl ?_
    refine wq_callV (d' := (d + 2)) (pc := 232) (as := [vI 0, vI 0, vI x2, vI (wr (x3 + 1))]) (rest := []) (lo' := [iR 66, iI 0, iI 0, iI x2, iI (wr (x3 + 1)), none, none, none]) dV_speak_232 mO_V_call lV_V_28 sh_66 (by decide) cl_8 rfl rfl rfl rfl rfl (blt_d d) ?_
    exact H
  by_cases c7 : x1 = 31
  · refine wq_look (pc := 43) (off := 198) (tgt := 241) dV_speak_43 (by decide) (by rw [c7] <;> rfl) (by decide) ?_
    have H := H.2.2.2.2.2.2.1 c7
    refine wq_aload_n (pc := 241) dV_speak_241 rfl rfl ?_
    refine wq_iconst (pc := 242) dV_speak_242 rfl ?_
    refine wq_iconst (pc := 243) dV_speak_243 rfl ?_
    refine wq_iload_n (pc := 244) dV_speak_244 rfl rfl ?_
    refine wq_iconst (pc := 245) dV_speak_245 rfl ?_
    refine wq_iadd (pc := 246) dV_speak_246 ?_
    refine wq_iload (pc := 247) dV_speak_247 rfl ?_
    refine wq_callV (d' := (d + 2)) (pc := 249) (as := [vI 0, vI 3, vI (wr (x2 + 1)), vI (wr (x3 + 1))]) (rest := []) (lo' := [iR 66, iI 0, iI 3, iI (wr (x2 + 1)), iI (wr (x3 + 1)), none, none, none]) dV_speak_249 mO_V_call lV_V_28 sh_66 (by decide) cl_8 rfl rfl rfl rfl rfl (blt_d d) ?_
    exact H
  by_cases c8 : x1 = 40
  · refine wq_look (pc := 43) (off := 210) (tgt := 253) dV_speak_43 (by decide) (by rw [c8] <;> rfl) (by decide) ?_
    have H := H.2.2.2.2.2.2.2.1 c8
    refine wq_aload_n (pc := 253) dV_speak_253 rfl rfl ?_
    refine wq_iconst (pc := 254) dV_speak_254 rfl ?_
    refine wq_iconst (pc := 255) dV_speak_255 rfl ?_
    refine wq_iload_n (pc := 256) dV_speak_256 rfl rfl ?_
    refine wq_iload (pc := 257) dV_speak_257 rfl ?_
    refine wq_callV (d' := (d + 2)) (pc := 259) (as := [vI 2, vI 2, vI x2, vI (wr (x3 + 1))]) (rest := []) (lo' := [iR 66, iI 2, iI 2, iI x2, iI (wr (x3 + 1)), none, none, none]) dV_speak_259 mO_V_call lV_V_28 sh_66 (by decide) cl_8 rfl rfl rfl rfl rfl (blt_d d) ?_
    exact H
  by_cases c9 : x1 = 41
  · refine wq_look (pc := 43) (off := 222) (tgt := 265) dV_speak_43 (by decide) (by rw [c9] <;> rfl) (by decide) ?_
    have H := H.2.2.2.2.2.2.2.2.1 c9
    refine wq_aload_n (pc := 265) dV_speak_265 rfl rfl ?_
    refine wq_iconst (pc := 266) dV_speak_266 rfl ?_
    refine wq_iconst (pc := 267) dV_speak_267 rfl ?_
    refine wq_iload_n (pc := 268) dV_speak_268 rfl rfl ?_
    refine wq_aload_n (pc := 269) dV_speak_269 rfl rfl ?_
    refine wq_getI (pc := 270) (z := 4) dV_speak_270 fO_V_25 sh_66 rfl rfl ?_
    refine wq_isub (pc := 273) dV_speak_273 ?_
    refine wq_iload (pc := 274) dV_speak_274 rfl ?_
    refine wq_callV (d' := (d + 2)) (pc := 276) (as := [vI 2, vI 0, vI (wr (x2 - gI M 66 4)), vI (wr (x3 + 1))]) (rest := []) (lo' := [iR 66, iI 2, iI 0, iI (wr (x2 - gI M 66 4)), iI (wr (x3 + 1)), none, none, none]) dV_speak_276 mO_V_call lV_V_28 sh_66 (by decide) cl_8 rfl rfl rfl rfl rfl (blt_d d) ?_
    exact H
  by_cases c10 : x1 = 50
  · refine wq_look (pc := 43) (off := 237) (tgt := 280) dV_speak_43 (by decide) (by rw [c10] <;> rfl) (by decide) ?_
    have H := H.2.2.2.2.2.2.2.2.2.1 c10
    refine wq_aload_n (pc := 280) dV_speak_280 rfl rfl ?_
    refine wq_aload_n (pc := 281) dV_speak_281 rfl rfl ?_
    refine wq_getI (pc := 282) (z := 2) dV_speak_282 fO_V_19 sh_66 rfl rfl ?_
    refine wq_iconst (pc := 285) dV_speak_285 rfl ?_
    refine wq_iload_n (pc := 286) dV_speak_286 rfl rfl ?_
    refine wq_iload (pc := 287) dV_speak_287 rfl ?_
    refine wq_callV (d' := (d + 2)) (pc := 289) (as := [vI (gI M 66 2), vI 2, vI x2, vI (wr (x3 + 1))]) (rest := []) (lo' := [iR 66, iI (gI M 66 2), iI 2, iI x2, iI (wr (x3 + 1)), none, none, none]) dV_speak_289 mO_V_call lV_V_28 sh_66 (by decide) cl_8 rfl rfl rfl rfl rfl (blt_d d) ?_
    exact H
  by_cases c11 : x1 = 60
  · refine wq_look (pc := 43) (off := 260) (tgt := 303) dV_speak_43 (by decide) (by rw [c11] <;> rfl) (by decide) ?_
    have H := H.2.2.2.2.2.2.2.2.2.2.1 c11
    refine wq_aload_n (pc := 303) dV_speak_303 rfl rfl ?_
    refine wq_iconst (pc := 304) dV_speak_304 rfl ?_
    refine wq_iconst (pc := 305) dV_speak_305 rfl ?_
    refine wq_iload_n (pc := 306) dV_speak_306 rfl rfl ?_
    refine wq_aload_n (pc := 307) dV_speak_307 rfl rfl ?_
    refine wq_getI (pc := 308) (z := 3) dV_speak_308 fO_V_22 sh_66 rfl rfl ?_
    refine wq_iadd (pc := 311) dV_speak_311 ?_
    refine wq_iload (pc := 312) dV_speak_312 rfl ?_
    refine wq_callV (d' := (d + 2)) (pc := 314) (as := [vI 2, vI 2, vI (wr (x2 + gI M 66 3)), vI (wr (x3 + 1))]) (rest := []) (lo' := [iR 66, iI 2, iI 2, iI (wr (x2 + gI M 66 3)), iI (wr (x3 + 1)), none, none, none]) dV_speak_314 mO_V_call lV_V_28 sh_66 (by decide) cl_8 rfl rfl rfl rfl rfl (blt_d d) ?_
    exact H
  by_cases c12 : x1 = 61
  · refine wq_look (pc := 43) (off := 275) (tgt := 318) dV_speak_43 (by decide) (by rw [c12] <;> rfl) (by decide) ?_
    have H := H.2.2.2.2.2.2.2.2.2.2.2.1 c12
    refine wq_aload_n (pc := 318) dV_speak_318 rfl rfl ?_
    refine wq_iconst (pc := 319) dV_speak_319 rfl ?_
    refine wq_iconst (pc := 320) dV_speak_320 rfl ?_
    refine wq_iload_n (pc := 321) dV_speak_321 rfl rfl ?_
    refine wq_iload (pc := 322) dV_speak_322 rfl ?_
    refine wq_callV (d' := (d + 2)) (pc := 324) (as := [vI 2, vI 1, vI x2, vI (wr (x3 + 1))]) (rest := []) (lo' := [iR 66, iI 2, iI 1, iI x2, iI (wr (x3 + 1)), none, none, none]) dV_speak_324 mO_V_call lV_V_28 sh_66 (by decide) cl_8 rfl rfl rfl rfl rfl (blt_d d) ?_
    exact H
  refine wq_look (pc := 43) (off := 298) (tgt := 341) dV_speak_43 (by decide) (by simp [Op.lookupswitch.offset, c1, c2, c3, c4, c5, c6, c7, c8, c9, c10, c11, c12, Ne.symm c1, Ne.symm c2, Ne.symm c3, Ne.symm c4, Ne.symm c5, Ne.symm c6, Ne.symm c7, Ne.symm c8, Ne.symm c9, Ne.symm c10, Ne.symm c11, Ne.symm c12]) (by decide) ?_
  have H := H.2.2.2.2.2.2.2.2.2.2.2.2 (by omega)
  refine wq_iconst (pc := 341) dV_speak_341 rfl ?_
  refine wq_ireturn (pc := 342) dV_speak_342 trivial ?_
  exact H

set_option maxRecDepth 20000 in
theorem B_V_speak_167 {d : Nat} {x1 x2 x3 x4 y0 : Int} {M : Mm} {Q : Mm → Option Mv → Prop} (H : Q M (some (vI (wr (y0 * 2))))) : Wq (d + 3) 0 0 mV_speak 167 [iR 66, iI x1, iI x2, iI x3, iI x4] [vI y0] M Q := by
  refine wq_iconst (pc := 167) dV_speak_167 rfl ?_
  refine wq_imul (pc := 168) dV_speak_168 ?_
  refine wq_ireturn (pc := 169) dV_speak_169 trivial ?_
  exact H

set_option maxRecDepth 20000 in
theorem B_V_speak_189 {d : Nat} {x1 x2 x3 x4 y0 : Int} {M : Mm} {Q : Mm → Option Mv → Prop} (H : Wq (d + 2) 0 0 mV_call 0 [iR 66, iI (gI M 66 2), iI 2, iI x2, iI x4, none, none, none] [] M (fun M' v => Wq (d + 3) 0 0 mV_speak 201 [iR 66, iI x1, iI x2, iI x3, iI x4] (v.toList ++ [vI y0]) M' Q)) : Wq (d + 3) 0 0 mV_speak 189 [iR 66, iI x1, iI x2, iI x3, iI x4] [vI y0] M Q := by
  refine wq_aload_n (pc := 189) dV_speak_189 rfl rfl ?_
  refine wq_aload_n (pc := 190) dV_speak_190 rfl rfl ?_
  refine wq_getI (pc := 191) (z := 2) dV_speak_191 fO_V_19 sh_66 rfl rfl ?_
  refine wq_iconst (pc := 194) dV_speak_194 rfl ?_
  refine wq_iload_n (pc := 195) dV_speak_195 rfl rfl ?_
  refine wq_iload (pc := 196) dV_speak_196 rfl ?_
  refine wq_callV (d' := (d + 2)) (pc := 198) (as := [vI (gI M 66 2), vI 2, vI x2, vI x4]) (rest := [vI y0]) (lo' := [iR 66, iI (gI M 66 2), iI 2, iI x2, iI x4, none, none, none]) dV_speak_198 mO_V_call lV_V_28 sh_66 (by decide) cl_8 rfl rfl rfl rfl rfl (blt_d d) ?_
  exact H

set_option maxRecDepth 20000 in
theorem B_V_speak_201 {d : Nat} {x1 x2 x3 x4 y0 y1 : Int} {M : Mm} {Q : Mm → Option Mv → Prop} (H : Q M (some (vI (bXor y1 y0)))) : Wq (d + 3) 0 0 mV_speak 201 [iR 66, iI x1, iI x2, iI x3, iI x4] [vI y0, vI y1] M Q := by
  refine wq_ixor (pc := 201) dV_speak_201 ?_
  refine wq_ireturn (pc := 202) dV_speak_202 trivial ?_
  exact H

set_option maxRecDepth 20000 in
theorem B_V_speak_212 {d : Nat} {x1 x2 x3 x4 y0 : Int} {M : Mm} {Q : Mm → Option Mv → Prop} (H : Wq (d + 2) 0 0 mV_call 0 [iR 66, iI (gI M 66 2), iI 2, iI x2, iI x4, none, none, none] [] M (fun M' v => Wq (d + 3) 0 0 mV_speak 224 [iR 66, iI x1, iI x2, iI x3, iI x4] (v.toList ++ [vI y0]) M' Q)) : Wq (d + 3) 0 0 mV_speak 212 [iR 66, iI x1, iI x2, iI x3, iI x4] [vI y0] M Q := by
  refine wq_aload_n (pc := 212) dV_speak_212 rfl rfl ?_
  refine wq_aload_n (pc := 213) dV_speak_213 rfl rfl ?_
  refine wq_getI (pc := 214) (z := 2) dV_speak_214 fO_V_19 sh_66 rfl rfl ?_
  refine wq_iconst (pc := 217) dV_speak_217 rfl ?_
  refine wq_iload_n (pc := 218) dV_speak_218 rfl rfl ?_
  refine wq_iload (pc := 219) dV_speak_219 rfl ?_
  refine wq_callV (d' := (d + 2)) (pc := 221) (as := [vI (gI M 66 2), vI 2, vI x2, vI x4]) (rest := [vI y0]) (lo' := [iR 66, iI (gI M 66 2), iI 2, iI x2, iI x4, none, none, none]) dV_speak_221 mO_V_call lV_V_28 sh_66 (by decide) cl_8 rfl rfl rfl rfl rfl (blt_d d) ?_
  exact H

set_option maxRecDepth 20000 in
theorem B_V_speak_224 {d : Nat} {x1 x2 x3 x4 y0 y1 : Int} {M : Mm} {Q : Mm → Option Mv → Prop} (H : Q M (some (vI (wr (y1 - y0))))) : Wq (d + 3) 0 0 mV_speak 224 [iR 66, iI x1, iI x2, iI x3, iI x4] [vI y0, vI y1] M Q := by
  refine wq_isub (pc := 224) dV_speak_224 ?_
  refine wq_ireturn (pc := 225) dV_speak_225 trivial ?_
  exact H

set_option maxRecDepth 20000 in
theorem B_V_speak_235 {d : Nat} {x1 x2 x3 x4 y0 : Int} {M : Mm} {Q : Mm → Option Mv → Prop} (H : Q M (some (vI (wr (y0 + gI M 66 3))))) : Wq (d + 3) 0 0 mV_speak 235 [iR 66, iI x1, iI x2, iI x3, iI x4] [vI y0] M Q := by
  refine wq_aload_n (pc := 235) dV_speak_235 rfl rfl ?_
  refine wq_getI (pc := 236) (z := 3) dV_speak_236 fO_V_22 sh_66 rfl rfl ?_
  refine wq_iadd (pc := 239) dV_speak_239 ?_
  refine wq_ireturn (pc := 240) dV_speak_240 trivial ?_
  exact H

set_option maxRecDepth 20000 in
theorem B_V_speak_252 {d : Nat} {x1 x2 x3 x4 y0 : Int} {M : Mm} {Q : Mm → Option Mv → Prop} (H : Q M (some (vI y0))) : Wq (d + 3) 0 0 mV_speak 252 [iR 66, iI x1, iI x2, iI x3, iI x4] [vI y0] M Q := by
  refine wq_ireturn (pc := 252) dV_speak_252 trivial ?_
  exact H

set_option maxRecDepth 20000 in
theorem B_V_speak_262 {d : Nat} {x1 x2 x3 x4 y0 : Int} {M : Mm} {Q : Mm → Option Mv → Prop} (H : Q M (some (vI (wr (y0 * 3))))) : Wq (d + 3) 0 0 mV_speak 262 [iR 66, iI x1, iI x2, iI x3, iI x4] [vI y0] M Q := by
  refine wq_iconst (pc := 262) dV_speak_262 rfl ?_
  refine wq_imul (pc := 263) dV_speak_263 ?_
  refine wq_ireturn (pc := 264) dV_speak_264 trivial ?_
  exact H

set_option maxRecDepth 20000 in
theorem B_V_speak_279 {d : Nat} {x1 x2 x3 x4 y0 : Int} {M : Mm} {Q : Mm → Option Mv → Prop} (H : Q M (some (vI y0))) : Wq (d + 3) 0 0 mV_speak 279 [iR 66, iI x1, iI x2, iI x3, iI x4] [vI y0] M Q := by
  refine wq_ireturn (pc := 279) dV_speak_279 trivial ?_
  exact H

set_option maxRecDepth 20000 in
theorem B_V_speak_292 {d : Nat} {x1 x2 x3 x4 y0 : Int} {M : Mm} {Q : Mm → Option Mv → Prop} (H : Wq (d + 2) 0 0 mV_call 0 [iR 66, iI 0, iI 3, iI x2, iI x4, none, none, none] [] M (fun M' v => Wq (d + 3) 0 0 mV_speak 301 [iR 66, iI x1, iI x2, iI x3, iI x4] (v.toList ++ [vI y0]) M' Q)) : Wq (d + 3) 0 0 mV_speak 292 [iR 66, iI x1, iI x2, iI x3, iI x4] [vI y0] M Q := by
  refine wq_aload_n (pc := 292) dV_speak_292 rfl rfl ?_
  refine wq_iconst (pc := 293) dV_speak_293 rfl ?_
  refine wq_iconst (pc := 294) dV_speak_294 rfl ?_
  refine wq_iload_n (pc := 295) dV_speak_295 rfl rfl ?_
  refine wq_iload (pc := 296) dV_speak_296 rfl ?_
  refine wq_callV (d' := (d + 2)) (pc := 298) (as := [vI 0, vI 3, vI x2, vI x4]) (rest := [vI y0]) (lo' := [iR 66, iI 0, iI 3, iI x2, iI x4, none, none, none]) dV_speak_298 mO_V_call lV_V_28 sh_66 (by decide) cl_8 rfl rfl rfl rfl rfl (blt_d d) ?_
  exact H

set_option maxRecDepth 20000 in
theorem B_V_speak_301 {d : Nat} {x1 x2 x3 x4 y0 y1 : Int} {M : Mm} {Q : Mm → Option Mv → Prop} (H : Q M (some (vI (wr (y1 - y0))))) : Wq (d + 3) 0 0 mV_speak 301 [iR 66, iI x1, iI x2, iI x3, iI x4] [vI y0, vI y1] M Q := by
  refine wq_isub (pc := 301) dV_speak_301 ?_
  refine wq_ireturn (pc := 302) dV_speak_302 trivial ?_
  exact H

set_option maxRecDepth 20000 in
theorem B_V_speak_317 {d : Nat} {x1 x2 x3 x4 y0 : Int} {M : Mm} {Q : Mm → Option Mv → Prop} (H : Q M (some (vI y0))) : Wq (d + 3) 0 0 mV_speak 317 [iR 66, iI x1, iI x2, iI x3, iI x4] [vI y0] M Q := by
  refine wq_ireturn (pc := 317) dV_speak_317 trivial ?_
  exact H

set_option maxRecDepth 20000 in
theorem B_V_speak_327 {d : Nat} {x1 x2 x3 x4 y0 : Int} {M : Mm} {Q : Mm → Option Mv → Prop} (H : Wq (d + 2) 0 0 mV_call 0 [iR 66, iI (gI M 66 2), iI 0, iI x2, iI x4, none, none, none] [] M (fun M' v => Wq (d + 3) 0 0 mV_speak 339 [iR 66, iI x1, iI x2, iI x3, iI x4] (v.toList ++ [vI y0]) M' Q)) : Wq (d + 3) 0 0 mV_speak 327 [iR 66, iI x1, iI x2, iI x3, iI x4] [vI y0] M Q := by
  refine wq_aload_n (pc := 327) dV_speak_327 rfl rfl ?_
  refine wq_aload_n (pc := 328) dV_speak_328 rfl rfl ?_
  refine wq_getI (pc := 329) (z := 2) dV_speak_329 fO_V_19 sh_66 rfl rfl ?_
  refine wq_iconst (pc := 332) dV_speak_332 rfl ?_
  refine wq_iload_n (pc := 333) dV_speak_333 rfl rfl ?_
  refine wq_iload (pc := 334) dV_speak_334 rfl ?_
  refine wq_callV (d' := (d + 2)) (pc := 336) (as := [vI (gI M 66 2), vI 0, vI x2, vI x4]) (rest := [vI y0]) (lo' := [iR 66, iI (gI M 66 2), iI 0, iI x2, iI x4, none, none, none]) dV_speak_336 mO_V_call lV_V_28 sh_66 (by decide) cl_8 rfl rfl rfl rfl rfl (blt_d d) ?_
  exact H

set_option maxRecDepth 20000 in
theorem B_V_speak_339 {d : Nat} {x1 x2 x3 x4 y0 y1 : Int} {M : Mm} {Q : Mm → Option Mv → Prop} (H : Q M (some (vI (bXor y1 y0)))) : Wq (d + 3) 0 0 mV_speak 339 [iR 66, iI x1, iI x2, iI x3, iI x4] [vI y0, vI y1] M Q := by
  refine wq_ixor (pc := 339) dV_speak_339 ?_
  refine wq_ireturn (pc := 340) dV_speak_340 trivial ?_
  exact H
set_option maxRecDepth 20000 in
theorem B_V_begin_0 {x1 x2 x3 x4 x5 : Int} {M : Mm} {Q : Mm → Option Mv → Prop} (H : Wq 50 0 0 mV_call 0 [iR 66, iI x1, iI x4, iI x5, iI 0, none, none, none] [] (sI (sI (sI (sI M 66 1 0) 66 2 x1) 66 3 x2) 66 4 x3) (fun M' v => Wq 51 0 0 mV_begin 33 [iR 66, iI x1, iI x2, iI x3, iI x4, iI x5] (v.toList ++ []) M' Q)) : Wq 51 0 0 mV_begin 0 [iR 66, iI x1, iI x2, iI x3, iI x4, iI x5] [] M Q := by
  refine wq_aload_n (pc := 0) dV_begin_0 rfl rfl ?_
  refine wq_iconst (pc := 1) dV_begin_1 rfl ?_
  refine wq_putI (pc := 2) (z := 1) dV_begin_2 fW_V_15 sh_66 rfl rfl ?_
  refine wq_aload_n (pc := 5) dV_begin_5 rfl rfl ?_
  refine wq_iload_n (pc := 6) dV_begin_6 rfl rfl ?_
  refine wq_putI (pc := 7) (z := 2) dV_begin_7 fW_V_19 sh_66 rfl rfl ?_
  refine wq_aload_n (pc := 10) dV_begin_10 rfl rfl ?_
  refine wq_iload_n (pc := 11) dV_begin_11 rfl rfl ?_
  refine wq_putI (pc := 12) (z := 3) dV_begin_12 fW_V_22 sh_66 rfl rfl ?_
  refine wq_aload_n (pc := 15) dV_begin_15 rfl rfl ?_
  refine wq_iload_n (pc := 16) dV_begin_16 rfl rfl ?_
  refine wq_putI (pc := 17) (z := 4) dV_begin_17 fW_V_25 sh_66 rfl rfl ?_
  refine wq_aload_n (pc := 20) dV_begin_20 rfl rfl ?_
  refine wq_aload_n (pc := 21) dV_begin_21 rfl rfl ?_
  refine wq_getI (pc := 22) (z := 2) dV_begin_22 fO_V_19 sh_66 rfl rfl ?_
  refine wq_re (x := (gI (sI (sI (sI (sI M 66 1 0) 66 2 x1) 66 3 x2) 66 4 x3) 66 2)) (y := x1) rfl ?_
  refine wq_iload (pc := 25) dV_begin_25 rfl ?_
  refine wq_iload (pc := 27) dV_begin_27 rfl ?_
  refine wq_iconst (pc := 29) dV_begin_29 rfl ?_
  refine wq_callV (d' := 50) (pc := 30) (as := [vI x1, vI x4, vI x5, vI 0]) (rest := []) (lo' := [iR 66, iI x1, iI x4, iI x5, iI 0, none, none, none]) dV_begin_30 mO_V_call lV_V_28 sh_66 (by decide) cl_8 rfl rfl rfl rfl rfl rfl ?_
  exact H

set_option maxRecDepth 20000 in
theorem B_V_begin_33 {x1 x2 x3 x4 x5 y0 : Int} {M : Mm} {Q : Mm → Option Mv → Prop} (H : Q M (some (vI y0))) : Wq 51 0 0 mV_begin 33 [iR 66, iI x1, iI x2, iI x3, iI x4, iI x5] [vI y0] M Q := by
  refine wq_ireturn (pc := 33) dV_begin_33 trivial ?_
  exact H
set_option maxRecDepth 20000 in
theorem B_D_voice_0 {x1 x2 x3 : Int} {M : Mm} {Q : Mm → Option Mv → Prop} (hS : RefOK M) (H : ((0 ≤ x1 ∧ x1 < gI M 5 6 → ((0 ≤ x2 ∧ x2 ≤ 3 → ((0 ≤ x1 ∧ x1 < 16) ∧ Wq 51 0 0 mV_begin 0 [iR 66, iI (gI M 6 x1), iI x1, iI (gI M 8 x1), iI x2, iI x3] [] M (fun M' v => Wq 52 0 0 mD_voice 64 [iR 0, iI x1, iI x2, iI x3] (v.toList ++ []) M' Q))) ∧ (¬ (0 ≤ x2 ∧ x2 ≤ 3) → Q (sI M 69 1 (wr (gI M 69 1 + 1))) (some (vI (-1000001)))))) ∧ (¬ (0 ≤ x1 ∧ x1 < gI M 5 6) → Q (sI M 69 1 (wr (gI M 69 1 + 1))) (some (vI (-1000001)))))) : Wq 52 0 0 mD_voice 0 [iR 0, iI x1, iI x2, iI x3] [] M Q := by
  refine wq_aload_n (pc := 0) dD_voice_0 rfl rfl ?_
  refine wq_getR (pc := 1) (z := 0) (b := 1) dD_voice_1 fO_D_12 sh_0 rfl rfl (rf_0_0 hS) ?_
  refine wq_getR (pc := 4) (z := 1) (b := 5) dD_voice_4 fO_D_74 sh_1 rfl rfl (rf_1_1 hS) ?_
  refine wq_iload_n (pc := 7) dD_voice_7 rfl rfl ?_
  refine wq_callV (d' := 1) (pc := 8) (as := [vI x1]) (rest := []) (lo' := [iR 5, iI x1]) dD_voice_8 mO_W_has lV_D_88 sh_5 (by decide) cl_9 rfl rfl rfl rfl rfl rfl ?_
  refine sp_W_has (fun c1 => ?_) (fun c1 => ?_)
  · have H := H.1 c1
    show Wq 52 0 0 mD_voice 11 [iR 0, iI x1, iI x2, iI x3] [vI 1] M _
    refine wq_if_eq (pc := 11) (tgt := 23) dD_voice_11 (by decide) (fun q => absurd q (by decide)) (fun _ => ?_)
    refine wq_iload_n (pc := 14) dD_voice_14 rfl rfl ?_
    refine wq_iconst (pc := 15) dD_voice_15 rfl ?_
    refine wq_iconst (pc := 16) dD_voice_16 rfl ?_
    refine wq_callS (d' := 1) (pc := 17) (as := [vI x2, vI 0, vI 3]) (rest := []) (lo' := [iI x2, iI 0, iI 3]) dD_voice_17 mO_D_within lS_D_65 rfl rfl rfl rfl rfl rfl ?_
    refine sp_D_within (fun c2 => ?_) (fun c2 => ?_)
    · have H := H.1 c2
      show Wq 52 0 0 mD_voice 20 [iR 0, iI x1, iI x2, iI x3] [vI 1] M _
      obtain ⟨s3, H⟩ := H
      refine wq_if_ne (pc := 20) (tgt := 30) dD_voice_20 (by decide) (fun _ => ?_) (fun q => absurd q (by decide))
      refine wq_aload_n (pc := 30) dD_voice_30 rfl rfl ?_
      refine wq_getR (pc := 31) (z := 4) (b := 66) dD_voice_31 fO_D_36 sh_0 rfl rfl (rf_0_4 hS) ?_
      refine wq_aload_n (pc := 34) dD_voice_34 rfl rfl ?_
      refine wq_getR (pc := 35) (z := 0) (b := 1) dD_voice_35 fO_D_12 sh_0 rfl rfl (rf_0_0 hS) ?_
      refine wq_getR (pc := 38) (z := 1) (b := 5) dD_voice_38 fO_D_74 sh_1 rfl rfl (rf_1_1 hS) ?_
      refine wq_getR (pc := 41) (z := 0) (b := 6) dD_voice_41 fO_D_91 sh_5 rfl rfl (rf_5_0 hS) ?_
      refine wq_iload_n (pc := 44) dD_voice_44 rfl rfl ?_
      refine wq_iald (pc := 45) dD_voice_45 sh_6 s3.1 s3.2 ?_
      refine wq_iload_n (pc := 46) dD_voice_46 rfl rfl ?_
      refine wq_aload_n (pc := 47) dD_voice_47 rfl rfl ?_
      refine wq_getR (pc := 48) (z := 0) (b := 1) dD_voice_48 fO_D_12 sh_0 rfl rfl (rf_0_0 hS) ?_
      refine wq_getR (pc := 51) (z := 1) (b := 5) dD_voice_51 fO_D_74 sh_1 rfl rfl (rf_1_1 hS) ?_
      refine wq_getR (pc := 54) (z := 2) (b := 8) dD_voice_54 fO_D_305 sh_5 rfl rfl (rf_5_2 hS) ?_
      refine wq_iload_n (pc := 57) dD_voice_57 rfl rfl ?_
      refine wq_iald (pc := 58) dD_voice_58 sh_8 s3.1 s3.2 ?_
      refine wq_iload_n (pc := 59) dD_voice_59 rfl rfl ?_
      refine wq_iload_n (pc := 60) dD_voice_60 rfl rfl ?_
      refine wq_callV (d' := 51) (pc := 61) (as := [vI (gI M 6 x1), vI x1, vI (gI M 8 x1), vI x2, vI x3]) (rest := []) (lo' := [iR 66, iI (gI M 6 x1), iI x1, iI (gI M 8 x1), iI x2, iI x3]) dD_voice_61 mO_V_begin lV_D_308 sh_66 (by decide) cl_8 rfl rfl rfl rfl rfl rfl ?_
      exact H
    · have H := H.2 c2
      show Wq 52 0 0 mD_voice 20 [iR 0, iI x1, iI x2, iI x3] [vI 0] M _
      refine wq_if_ne (pc := 20) (tgt := 30) dD_voice_20 (by decide) (fun q => absurd q (by decide)) (fun _ => ?_)
      refine wq_aload_n (pc := 23) dD_voice_23 rfl rfl ?_
      refine wq_ldc (pc := 24) (z := (-1000001)) dD_voice_24 kO_D_69 (by decide) ?_
      refine wq_callV (d' := 2) (pc := 26) (as := [vI (-1000001)]) (rest := []) (lo' := [iR 0, iI ((-1000001)), none]) dD_voice_26 mO_D_finding lV_D_70 sh_0 (by decide) cl_10 rfl rfl rfl rfl rfl rfl ?_
      refine sp_D_finding (k := 1) (by decide) (by decide) (by decide) hS ?_
      show Wq 52 0 0 mD_voice 29 [iR 0, iI x1, iI x2, iI x3] [vI (-1000001)] (sI M 69 1 (wr (gI M 69 1 + 1))) _
      refine wq_ireturn (pc := 29) dD_voice_29 trivial ?_
      exact H
  · have H := H.2 c1
    show Wq 52 0 0 mD_voice 11 [iR 0, iI x1, iI x2, iI x3] [vI 0] M _
    refine wq_if_eq (pc := 11) (tgt := 23) dD_voice_11 (by decide) (fun _ => ?_) (fun q => absurd (by decide) q)
    refine wq_aload_n (pc := 23) dD_voice_23 rfl rfl ?_
    refine wq_ldc (pc := 24) (z := (-1000001)) dD_voice_24 kO_D_69 (by decide) ?_
    refine wq_callV (d' := 2) (pc := 26) (as := [vI (-1000001)]) (rest := []) (lo' := [iR 0, iI ((-1000001)), none]) dD_voice_26 mO_D_finding lV_D_70 sh_0 (by decide) cl_10 rfl rfl rfl rfl rfl rfl ?_
    refine sp_D_finding (k := 1) (by decide) (by decide) (by decide) hS ?_
    show Wq 52 0 0 mD_voice 29 [iR 0, iI x1, iI x2, iI x3] [vI (-1000001)] (sI M 69 1 (wr (gI M 69 1 + 1))) _
    refine wq_ireturn (pc := 29) dD_voice_29 trivial ?_
    exact H

set_option maxRecDepth 20000 in
theorem B_D_voice_64 {x1 x2 x3 y0 : Int} {M : Mm} {Q : Mm → Option Mv → Prop} (H : Q M (some (vI y0))) : Wq 52 0 0 mD_voice 64 [iR 0, iI x1, iI x2, iI x3] [vI y0] M Q := by
  refine wq_ireturn (pc := 64) dD_voice_64 trivial ?_
  exact H
