set_option maxRecDepth 20000 in
theorem B_Y_countDry_c2_0 {x1 : Int} {M : Mm} {Q : Mm → Option Mv → Prop} (H : Wq 2 0 0 mY_countDry 2 [iR 2, iI x1, iI x1] [] M Q) : Wq 2 0 0 mY_countDry 0 [iR 2, iI x1, none] [] M Q := by
  refine wq_iload_n (pc := 0) dY_countDry_0 rfl rfl ?_
  refine wq_istore_n (pc := 1) (lo' := [iR 2, iI x1, iI x1]) dY_countDry_1 rfl rfl rfl ?_
  exact H

set_option maxRecDepth 20000 in
theorem B_Y_countDry_c2_2 {x1 x2 : Int} {M : Mm} {Q : Mm → Option Mv → Prop} (hB1 : gR M 2 1 = some 4) (H : ((900 ≤ x2 → Q M none) ∧ (¬ 900 ≤ x2 → (((0 ≤ x2 ∧ x2 < 901) ∧ (-2147483648 ≤ Int.tmod x2 7 ∧ Int.tmod x2 7 < 2147483648) ∧ (0 ≤ gI M 2 3 ∧ gI M 2 3 < 2147483648 ∧ 0 ≤ Int.tmod x2 7 ∧ Int.tmod x2 7 < 32)) ∧ ((hb (gI M 2 3) (Int.tmod x2 7) = true → Wq 1 0 0 mY_isWet 0 [iR 2, iI x2] [] M (fun M' v => Wq 2 0 0 mY_countDry 41 [iR 2, iI x1, iI x2] (v.toList ++ [vI (gI M 4 x2), vI (wr (x2 + 1)), vR 4]) M' Q)) ∧ (¬ (hb (gI M 2 3) (Int.tmod x2 7) = true) → (((-2147483648 ≤ gI M 4 x2 ∧ gI M 4 x2 < 2147483648) ∧ (0 ≤ x2 + 1 ∧ x2 + 1 < 901) ∧ (-2147483648 ≤ x2 + 1 ∧ x2 + 1 < 2147483648)) ∧ Wq 2 0 0 mY_countDry 2 [iR 2, iI x1, iI (x2 + 1)] [] (sI M 4 (x2 + 1) (gI M 4 x2)) Q))))))) : Wq 2 0 0 mY_countDry 2 [iR 2, iI x1, iI x2] [] M Q := by
  refine wq_iload_n (pc := 2) dY_countDry_2 rfl rfl ?_
  refine wq_sipush (pc := 3) dY_countDry_3 rfl ?_
  refine wq_icmp_ge (pc := 6) (tgt := 57) dY_countDry_6 (by decide) (fun c1 => ?_) (fun c1 => ?_)
  · have H := H.1 c1
    refine wq_return (pc := 57) dY_countDry_57 trivial ?_
    exact H
  · have H := H.2 c1
    obtain ⟨⟨s2, s3, s4⟩, H⟩ := H
    refine wq_aload_n (pc := 9) dY_countDry_9 rfl rfl ?_
    refine wq_getR (pc := 10) (z := 1) (b := 4) dY_countDry_10 fO_Y_15 sh_2 rfl rfl hB1 ?_
    refine wq_iload_n (pc := 13) dY_countDry_13 rfl rfl ?_
    refine wq_iconst (pc := 14) dY_countDry_14 rfl ?_
    refine wq_iadd (pc := 15) dY_countDry_15 ?_
    refine wq_aload_n (pc := 16) dY_countDry_16 rfl rfl ?_
    refine wq_getR (pc := 17) (z := 1) (b := 4) dY_countDry_17 fO_Y_15 sh_2 rfl rfl hB1 ?_
    refine wq_iload_n (pc := 20) dY_countDry_20 rfl rfl ?_
    refine wq_iald (pc := 21) dY_countDry_21 sh_4 s2.1 s2.2 ?_
    refine wq_aload_n (pc := 22) dY_countDry_22 rfl rfl ?_
    refine wq_getI (pc := 23) (z := 3) dY_countDry_23 fO_Y_23 sh_2 rfl rfl ?_
    refine wq_iload_n (pc := 26) dY_countDry_26 rfl rfl ?_
    refine wq_bipush (pc := 27) dY_countDry_27 rfl ?_
    refine wq_irem (pc := 29) dY_countDry_29 (by decide) ?_
    refine wq_re (x := (wr (Int.tmod x2 7))) (y := (Int.tmod x2 7)) (Eq.trans (wr_eq (by omega) (by omega)) (by omega)) ?_
    refine wq_callS (d' := 1) (pc := 30) (as := [vI (gI M 2 3), vI (Int.tmod x2 7)]) (rest := [vI (gI M 4 x2), vI (wr (x2 + 1)), vR 4]) (lo' := [iI (gI M 2 3), iI (Int.tmod x2 7)]) dY_countDry_30 mO_D_holds lS_Y_61 rfl rfl rfl rfl rfl rfl ?_
    refine sp_D_holds s4 (fun c5 => ?_) (fun c5 => ?_)
    · have H := H.1 c5
      show Wq 2 0 0 mY_countDry 33 [iR 2, iI x1, iI x2] [vI 1, vI (gI M 4 x2), vI (wr (x2 + 1)), vR 4] M _
      refine wq_if_eq (pc := 33) (tgt := 48) dY_countDry_33 (by decide) (fun q => absurd q (by decide)) (fun _ => ?_)
      refine wq_aload_n (pc := 36) dY_countDry_36 rfl rfl ?_
      refine wq_iload_n (pc := 37) dY_countDry_37 rfl rfl ?_
      refine wq_callV (d' := 1) (pc := 38) (as := [vI x2]) (rest := [vI (gI M 4 x2), vI (wr (x2 + 1)), vR 4]) (lo' := [iR 2, iI x2]) dY_countDry_38 mO_Y_isWet lV_Y_51 sh_2 (by decide) cl_1 rfl rfl rfl rfl rfl rfl ?_
      exact H
    · have H := H.2 c5
      show Wq 2 0 0 mY_countDry 33 [iR 2, iI x1, iI x2] [vI 0, vI (gI M 4 x2), vI (wr (x2 + 1)), vR 4] M _
      obtain ⟨⟨s6, s7, s8⟩, H⟩ := H
      refine wq_if_eq (pc := 33) (tgt := 48) dY_countDry_33 (by decide) (fun _ => ?_) (fun q => absurd (by decide) q)
      refine wq_iconst (pc := 48) dY_countDry_48 rfl ?_
      refine wq_iadd (pc := 49) dY_countDry_49 ?_
      refine wq_re (x := (wr (gI M 4 x2 + 0))) (y := (gI M 4 x2)) (Eq.trans (wr_eq (by omega) (by omega)) (by omega)) ?_
      refine wq_re2 (x := (wr (x2 + 1))) (y := (x2 + 1)) (Eq.trans (wr_eq (by omega) (by omega)) (by omega)) ?_
      refine wq_iast (pc := 50) dY_countDry_50 sh_4 (by decide) s7.1 s7.2 ?_
      refine wq_iinc (pc := 51) (lo' := [iR 2, iI x1, iI (x2 + 1)]) dY_countDry_51 rfl rfl (by rw [show wr (x2 + 1) = x2 + 1 from (Eq.trans (wr_eq (by omega) (by omega)) (by omega))]; rfl) ?_
      refine wq_goto (pc := 54) (tgt := 2) dY_countDry_54 (by decide) ?_
      exact H

set_option maxRecDepth 20000 in
theorem B_Y_countDry_c2_41 {x1 x2 y0 y1 y2 : Int} {M : Mm} {Q : Mm → Option Mv → Prop} (H : ((¬ y0 = 0 → (((-2147483648 ≤ y1 ∧ y1 < 2147483648) ∧ (0 ≤ y2 ∧ y2 < 901) ∧ (-2147483648 ≤ x2 + 1 ∧ x2 + 1 < 2147483648)) ∧ Wq 2 0 0 mY_countDry 2 [iR 2, iI x1, iI (x2 + 1)] [] (sI M 4 y2 y1) Q)) ∧ (y0 = 0 → (((-2147483648 ≤ y1 + 1 ∧ y1 + 1 < 2147483648) ∧ (0 ≤ y2 ∧ y2 < 901) ∧ (-2147483648 ≤ x2 + 1 ∧ x2 + 1 < 2147483648)) ∧ Wq 2 0 0 mY_countDry 2 [iR 2, iI x1, iI (x2 + 1)] [] (sI M 4 y2 (y1 + 1)) Q)))) : Wq 2 0 0 mY_countDry 41 [iR 2, iI x1, iI x2] [vI y0, vI y1, vI y2, vR 4] M Q := by
  refine wq_if_ne (pc := 41) (tgt := 48) dY_countDry_41 (by decide) (fun c1 => ?_) (fun c1 => ?_)
  · have H := H.1 c1
    obtain ⟨⟨s2, s3, s4⟩, H⟩ := H
    refine wq_iconst (pc := 48) dY_countDry_48 rfl ?_
    refine wq_iadd (pc := 49) dY_countDry_49 ?_
    refine wq_re (x := (wr (y1 + 0))) (y := y1) (Eq.trans (wr_eq (by omega) (by omega)) (by omega)) ?_
    refine wq_iast (pc := 50) dY_countDry_50 sh_4 (by decide) s3.1 s3.2 ?_
    refine wq_iinc (pc := 51) (lo' := [iR 2, iI x1, iI (x2 + 1)]) dY_countDry_51 rfl rfl (by rw [show wr (x2 + 1) = x2 + 1 from (Eq.trans (wr_eq (by omega) (by omega)) (by omega))]; rfl) ?_
    refine wq_goto (pc := 54) (tgt := 2) dY_countDry_54 (by decide) ?_
    exact H
  · have H := H.2 c1
    obtain ⟨⟨s5, s6, s7⟩, H⟩ := H
    refine wq_iconst (pc := 44) dY_countDry_44 rfl ?_
    refine wq_goto (pc := 45) (tgt := 49) dY_countDry_45 (by decide) ?_
    refine wq_iadd (pc := 49) dY_countDry_49 ?_
    refine wq_re (x := (wr (y1 + 1))) (y := (y1 + 1)) (Eq.trans (wr_eq (by omega) (by omega)) (by omega)) ?_
    refine wq_iast (pc := 50) dY_countDry_50 sh_4 (by decide) s6.1 s6.2 ?_
    refine wq_iinc (pc := 51) (lo' := [iR 2, iI x1, iI (x2 + 1)]) dY_countDry_51 rfl rfl (by rw [show wr (x2 + 1) = x2 + 1 from (Eq.trans (wr_eq (by omega) (by omega)) (by omega))]; rfl) ?_
    refine wq_goto (pc := 54) (tgt := 2) dY_countDry_54 (by decide) ?_
    exact H
set_option maxRecDepth 20000 in
theorem B_Y_isWet_c2_0 {x1 : Int} {M : Mm} {Q : Mm → Option Mv → Prop} (hB0 : gR M 2 0 = some 3) (H : ((0 ≤ bShr x1 6 ∧ bShr x1 6 < 15) ∧ ((lCmp (lAnd (lUshr (gL M 3 (bShr x1 6)) (bAnd x1 63)) 1) 0 = 0 → Q M (some (vI 0))) ∧ (¬ lCmp (lAnd (lUshr (gL M 3 (bShr x1 6)) (bAnd x1 63)) 1) 0 = 0 → Q M (some (vI 1)))))) : Wq 1 0 0 mY_isWet 0 [iR 2, iI x1] [] M Q := by
  obtain ⟨s1, H⟩ := H
  refine wq_aload_n (pc := 0) dY_isWet_0 rfl rfl ?_
  refine wq_getR (pc := 1) (z := 0) (b := 3) dY_isWet_1 fO_Y_9 sh_2 rfl rfl hB0 ?_
  refine wq_iload_n (pc := 4) dY_isWet_4 rfl rfl ?_
  refine wq_bipush (pc := 5) dY_isWet_5 rfl ?_
  refine wq_ishr (pc := 7) dY_isWet_7 ?_
  refine wq_lald (pc := 8) dY_isWet_8 sh_3 s1.1 s1.2 ?_
  refine wq_iload_n (pc := 9) dY_isWet_9 rfl rfl ?_
  refine wq_bipush (pc := 10) dY_isWet_10 rfl ?_
  refine wq_iand (pc := 12) dY_isWet_12 ?_
  refine wq_lushr (pc := 13) dY_isWet_13 ?_
  refine wq_lconst (pc := 14) (x := 1) dY_isWet_14 rfl rfl ?_
  refine wq_land (pc := 15) dY_isWet_15 ?_
  refine wq_lconst (pc := 16) (x := 0) dY_isWet_16 rfl rfl ?_
  refine wq_lcmp (pc := 17) dY_isWet_17 ?_
  refine wq_if_eq (pc := 18) (tgt := 25) dY_isWet_18 (by decide) (fun c2 => ?_) (fun c2 => ?_)
  · have H := H.1 c2
    refine wq_iconst (pc := 25) dY_isWet_25 rfl ?_
    refine wq_ireturn (pc := 26) dY_isWet_26 (Or.inl rfl) ?_
    exact H
  · have H := H.2 c2
    refine wq_iconst (pc := 21) dY_isWet_21 rfl ?_
    refine wq_goto (pc := 22) (tgt := 26) dY_isWet_22 (by decide) ?_
    refine wq_ireturn (pc := 26) dY_isWet_26 (Or.inr rfl) ?_
    exact H
set_option maxRecDepth 20000 in
theorem B_Y_countDry_c31_0 {x1 : Int} {M : Mm} {Q : Mm → Option Mv → Prop} (H : Wq 2 0 0 mY_countDry 2 [iR 31, iI x1, iI x1] [] M Q) : Wq 2 0 0 mY_countDry 0 [iR 31, iI x1, none] [] M Q := by
  refine wq_iload_n (pc := 0) dY_countDry_0 rfl rfl ?_
  refine wq_istore_n (pc := 1) (lo' := [iR 31, iI x1, iI x1]) dY_countDry_1 rfl rfl rfl ?_
  exact H

set_option maxRecDepth 20000 in
theorem B_Y_countDry_c31_2 {x1 x2 : Int} {M : Mm} {Q : Mm → Option Mv → Prop} (hB1 : gR M 31 1 = some 33) (H : ((900 ≤ x2 → Q M none) ∧ (¬ 900 ≤ x2 → (((0 ≤ x2 ∧ x2 < 901) ∧ (-2147483648 ≤ Int.tmod x2 7 ∧ Int.tmod x2 7 < 2147483648) ∧ (0 ≤ gI M 31 3 ∧ gI M 31 3 < 2147483648 ∧ 0 ≤ Int.tmod x2 7 ∧ Int.tmod x2 7 < 32)) ∧ ((hb (gI M 31 3) (Int.tmod x2 7) = true → Wq 1 0 0 mY_isWet 0 [iR 31, iI x2] [] M (fun M' v => Wq 2 0 0 mY_countDry 41 [iR 31, iI x1, iI x2] (v.toList ++ [vI (gI M 33 x2), vI (wr (x2 + 1)), vR 33]) M' Q)) ∧ (¬ (hb (gI M 31 3) (Int.tmod x2 7) = true) → (((-2147483648 ≤ gI M 33 x2 ∧ gI M 33 x2 < 2147483648) ∧ (0 ≤ x2 + 1 ∧ x2 + 1 < 901) ∧ (-2147483648 ≤ x2 + 1 ∧ x2 + 1 < 2147483648)) ∧ Wq 2 0 0 mY_countDry 2 [iR 31, iI x1, iI (x2 + 1)] [] (sI M 33 (x2 + 1) (gI M 33 x2)) Q))))))) : Wq 2 0 0 mY_countDry 2 [iR 31, iI x1, iI x2] [] M Q := by
  refine wq_iload_n (pc := 2) dY_countDry_2 rfl rfl ?_
  refine wq_sipush (pc := 3) dY_countDry_3 rfl ?_
  refine wq_icmp_ge (pc := 6) (tgt := 57) dY_countDry_6 (by decide) (fun c1 => ?_) (fun c1 => ?_)
  · have H := H.1 c1
    refine wq_return (pc := 57) dY_countDry_57 trivial ?_
    exact H
  · have H := H.2 c1
    obtain ⟨⟨s2, s3, s4⟩, H⟩ := H
    refine wq_aload_n (pc := 9) dY_countDry_9 rfl rfl ?_
    refine wq_getR (pc := 10) (z := 1) (b := 33) dY_countDry_10 fO_Y_15 sh_31 rfl rfl hB1 ?_
    refine wq_iload_n (pc := 13) dY_countDry_13 rfl rfl ?_
    refine wq_iconst (pc := 14) dY_countDry_14 rfl ?_
    refine wq_iadd (pc := 15) dY_countDry_15 ?_
    refine wq_aload_n (pc := 16) dY_countDry_16 rfl rfl ?_
    refine wq_getR (pc := 17) (z := 1) (b := 33) dY_countDry_17 fO_Y_15 sh_31 rfl rfl hB1 ?_
    refine wq_iload_n (pc := 20) dY_countDry_20 rfl rfl ?_
    refine wq_iald (pc := 21) dY_countDry_21 sh_33 s2.1 s2.2 ?_
    refine wq_aload_n (pc := 22) dY_countDry_22 rfl rfl ?_
    refine wq_getI (pc := 23) (z := 3) dY_countDry_23 fO_Y_23 sh_31 rfl rfl ?_
    refine wq_iload_n (pc := 26) dY_countDry_26 rfl rfl ?_
    refine wq_bipush (pc := 27) dY_countDry_27 rfl ?_
    refine wq_irem (pc := 29) dY_countDry_29 (by decide) ?_
    refine wq_re (x := (wr (Int.tmod x2 7))) (y := (Int.tmod x2 7)) (Eq.trans (wr_eq (by omega) (by omega)) (by omega)) ?_
    refine wq_callS (d' := 1) (pc := 30) (as := [vI (gI M 31 3), vI (Int.tmod x2 7)]) (rest := [vI (gI M 33 x2), vI (wr (x2 + 1)), vR 33]) (lo' := [iI (gI M 31 3), iI (Int.tmod x2 7)]) dY_countDry_30 mO_D_holds lS_Y_61 rfl rfl rfl rfl rfl rfl ?_
    refine sp_D_holds s4 (fun c5 => ?_) (fun c5 => ?_)
    · have H := H.1 c5
      show Wq 2 0 0 mY_countDry 33 [iR 31, iI x1, iI x2] [vI 1, vI (gI M 33 x2), vI (wr (x2 + 1)), vR 33] M _
      refine wq_if_eq (pc := 33) (tgt := 48) dY_countDry_33 (by decide) (fun q => absurd q (by decide)) (fun _ => ?_)
      refine wq_aload_n (pc := 36) dY_countDry_36 rfl rfl ?_
      refine wq_iload_n (pc := 37) dY_countDry_37 rfl rfl ?_
      refine wq_callV (d' := 1) (pc := 38) (as := [vI x2]) (rest := [vI (gI M 33 x2), vI (wr (x2 + 1)), vR 33]) (lo' := [iR 31, iI x2]) dY_countDry_38 mO_Y_isWet lV_Y_51 sh_31 (by decide) cl_1 rfl rfl rfl rfl rfl rfl ?_
      exact H
    · have H := H.2 c5
      show Wq 2 0 0 mY_countDry 33 [iR 31, iI x1, iI x2] [vI 0, vI (gI M 33 x2), vI (wr (x2 + 1)), vR 33] M _
      obtain ⟨⟨s6, s7, s8⟩, H⟩ := H
      refine wq_if_eq (pc := 33) (tgt := 48) dY_countDry_33 (by decide) (fun _ => ?_) (fun q => absurd (by decide) q)
      refine wq_iconst (pc := 48) dY_countDry_48 rfl ?_
      refine wq_iadd (pc := 49) dY_countDry_49 ?_
      refine wq_re (x := (wr (gI M 33 x2 + 0))) (y := (gI M 33 x2)) (Eq.trans (wr_eq (by omega) (by omega)) (by omega)) ?_
      refine wq_re2 (x := (wr (x2 + 1))) (y := (x2 + 1)) (Eq.trans (wr_eq (by omega) (by omega)) (by omega)) ?_
      refine wq_iast (pc := 50) dY_countDry_50 sh_33 (by decide) s7.1 s7.2 ?_
      refine wq_iinc (pc := 51) (lo' := [iR 31, iI x1, iI (x2 + 1)]) dY_countDry_51 rfl rfl (by rw [show wr (x2 + 1) = x2 + 1 from (Eq.trans (wr_eq (by omega) (by omega)) (by omega))]; rfl) ?_
      refine wq_goto (pc := 54) (tgt := 2) dY_countDry_54 (by decide) ?_
      exact H

set_option maxRecDepth 20000 in
theorem B_Y_countDry_c31_41 {x1 x2 y0 y1 y2 : Int} {M : Mm} {Q : Mm → Option Mv → Prop} (H : ((¬ y0 = 0 → (((-2147483648 ≤ y1 ∧ y1 < 2147483648) ∧ (0 ≤ y2 ∧ y2 < 901) ∧ (-2147483648 ≤ x2 + 1 ∧ x2 + 1 < 2147483648)) ∧ Wq 2 0 0 mY_countDry 2 [iR 31, iI x1, iI (x2 + 1)] [] (sI M 33 y2 y1) Q)) ∧ (y0 = 0 → (((-2147483648 ≤ y1 + 1 ∧ y1 + 1 < 2147483648) ∧ (0 ≤ y2 ∧ y2 < 901) ∧ (-2147483648 ≤ x2 + 1 ∧ x2 + 1 < 2147483648)) ∧ Wq 2 0 0 mY_countDry 2 [iR 31, iI x1, iI (x2 + 1)] [] (sI M 33 y2 (y1 + 1)) Q)))) : Wq 2 0 0 mY_countDry 41 [iR 31, iI x1, iI x2] [vI y0, vI y1, vI y2, vR 33] M Q := by
  refine wq_if_ne (pc := 41) (tgt := 48) dY_countDry_41 (by decide) (fun c1 => ?_) (fun c1 => ?_)
  · have H := H.1 c1
    obtain ⟨⟨s2, s3, s4⟩, H⟩ := H
    refine wq_iconst (pc := 48) dY_countDry_48 rfl ?_
    refine wq_iadd (pc := 49) dY_countDry_49 ?_
    refine wq_re (x := (wr (y1 + 0))) (y := y1) (Eq.trans (wr_eq (by omega) (by omega)) (by omega)) ?_
    refine wq_iast (pc := 50) dY_countDry_50 sh_33 (by decide) s3.1 s3.2 ?_
    refine wq_iinc (pc := 51) (lo' := [iR 31, iI x1, iI (x2 + 1)]) dY_countDry_51 rfl rfl (by rw [show wr (x2 + 1) = x2 + 1 from (Eq.trans (wr_eq (by omega) (by omega)) (by omega))]; rfl) ?_
    refine wq_goto (pc := 54) (tgt := 2) dY_countDry_54 (by decide) ?_
    exact H
  · have H := H.2 c1
    obtain ⟨⟨s5, s6, s7⟩, H⟩ := H
    refine wq_iconst (pc := 44) dY_countDry_44 rfl ?_
    refine wq_goto (pc := 45) (tgt := 49) dY_countDry_45 (by decide) ?_
    refine wq_iadd (pc := 49) dY_countDry_49 ?_
    refine wq_re (x := (wr (y1 + 1))) (y := (y1 + 1)) (Eq.trans (wr_eq (by omega) (by omega)) (by omega)) ?_
    refine wq_iast (pc := 50) dY_countDry_50 sh_33 (by decide) s6.1 s6.2 ?_
    refine wq_iinc (pc := 51) (lo' := [iR 31, iI x1, iI (x2 + 1)]) dY_countDry_51 rfl rfl (by rw [show wr (x2 + 1) = x2 + 1 from (Eq.trans (wr_eq (by omega) (by omega)) (by omega))]; rfl) ?_
    refine wq_goto (pc := 54) (tgt := 2) dY_countDry_54 (by decide) ?_
    exact H
set_option maxRecDepth 20000 in
theorem B_Y_isWet_c31_0 {x1 : Int} {M : Mm} {Q : Mm → Option Mv → Prop} (hB0 : gR M 31 0 = some 32) (H : ((0 ≤ bShr x1 6 ∧ bShr x1 6 < 15) ∧ ((lCmp (lAnd (lUshr (gL M 32 (bShr x1 6)) (bAnd x1 63)) 1) 0 = 0 → Q M (some (vI 0))) ∧ (¬ lCmp (lAnd (lUshr (gL M 32 (bShr x1 6)) (bAnd x1 63)) 1) 0 = 0 → Q M (some (vI 1)))))) : Wq 1 0 0 mY_isWet 0 [iR 31, iI x1] [] M Q := by
  obtain ⟨s1, H⟩ := H
  refine wq_aload_n (pc := 0) dY_isWet_0 rfl rfl ?_
  refine wq_getR (pc := 1) (z := 0) (b := 32) dY_isWet_1 fO_Y_9 sh_31 rfl rfl hB0 ?_
  refine wq_iload_n (pc := 4) dY_isWet_4 rfl rfl ?_
  refine wq_bipush (pc := 5) dY_isWet_5 rfl ?_
  refine wq_ishr (pc := 7) dY_isWet_7 ?_
  refine wq_lald (pc := 8) dY_isWet_8 sh_32 s1.1 s1.2 ?_
  refine wq_iload_n (pc := 9) dY_isWet_9 rfl rfl ?_
  refine wq_bipush (pc := 10) dY_isWet_10 rfl ?_
  refine wq_iand (pc := 12) dY_isWet_12 ?_
  refine wq_lushr (pc := 13) dY_isWet_13 ?_
  refine wq_lconst (pc := 14) (x := 1) dY_isWet_14 rfl rfl ?_
  refine wq_land (pc := 15) dY_isWet_15 ?_
  refine wq_lconst (pc := 16) (x := 0) dY_isWet_16 rfl rfl ?_
  refine wq_lcmp (pc := 17) dY_isWet_17 ?_
  refine wq_if_eq (pc := 18) (tgt := 25) dY_isWet_18 (by decide) (fun c2 => ?_) (fun c2 => ?_)
  · have H := H.1 c2
    refine wq_iconst (pc := 25) dY_isWet_25 rfl ?_
    refine wq_ireturn (pc := 26) dY_isWet_26 (Or.inl rfl) ?_
    exact H
  · have H := H.2 c2
    refine wq_iconst (pc := 21) dY_isWet_21 rfl ?_
    refine wq_goto (pc := 22) (tgt := 26) dY_isWet_22 (by decide) ?_
    refine wq_ireturn (pc := 26) dY_isWet_26 (Or.inr rfl) ?_
    exact H
