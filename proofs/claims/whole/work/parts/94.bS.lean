set_option maxRecDepth 20000 in
theorem B_L_law_18 {x3 : Int} {M : Mm} {Q : Mm → Option Mv → Prop} (hX : gI M 1000 (-1) ≤ 384) (H : ((-2147483648 ≤ gI M 1000 (-1) - 6 ∧ gI M 1000 (-1) - 6 < 2147483648) ∧ ((gI M 1000 (-1) - 6 < x3 → Q M (some (vI 1))) ∧ (¬ gI M 1000 (-1) - 6 < x3 → ((0 ≤ x3 ∧ x3 < gI M 1000 (-1)) ∧ ((bAnd (gI M 1000 x3) 63 = 0 → (((0 ≤ x3 + 1 ∧ x3 + 1 < gI M 1000 (-1)) ∧ (0 ≤ x3 + 2 ∧ x3 + 2 < gI M 1000 (-1))) ∧ Wq 3 0 0 mD_work 0 [iR 0, iI (gI M 1000 (x3 + 1)), iI (gI M 1000 (x3 + 2))] [] M (fun M' v => Wq 56 0 0 mL_law 214 [iR 1000, iR 0, iR 80, iI x3] (v.toList ++ []) M' Q))) ∧ (bAnd (gI M 1000 x3) 63 = 1 → (((0 ≤ x3 + 1 ∧ x3 + 1 < gI M 1000 (-1)) ∧ (0 ≤ x3 + 2 ∧ x3 + 2 < gI M 1000 (-1))) ∧ Wq 4 0 0 mD_as 0 [iR 0, iI (gI M 1000 (x3 + 1)), iI (gI M 1000 (x3 + 2)), none] [] M (fun M' v => Wq 56 0 0 mL_law 247 [iR 1000, iR 0, iR 80, iI x3] (v.toList ++ []) M' Q))) ∧ (bAnd (gI M 1000 x3) 63 = 2 → (((0 ≤ x3 + 1 ∧ x3 + 1 < gI M 1000 (-1)) ∧ (0 ≤ x3 + 2 ∧ x3 + 2 < gI M 1000 (-1))) ∧ Wq 3 0 0 mD_edit 0 [iR 0, iI (gI M 1000 (x3 + 1)), iI (gI M 1000 (x3 + 2)), none, none] [] M (fun M' v => Wq 56 0 0 mL_law 280 [iR 1000, iR 0, iR 80, iI x3] (v.toList ++ []) M' Q))) ∧ (bAnd (gI M 1000 x3) 63 = 3 → (((0 ≤ x3 + 1 ∧ x3 + 1 < gI M 1000 (-1)) ∧ (0 ≤ x3 + 2 ∧ x3 + 2 < gI M 1000 (-1)) ∧ (0 ≤ x3 + 3 ∧ x3 + 3 < gI M 1000 (-1))) ∧ Wq 5 0 0 mD_link 0 [iR 0, iI (gI M 1000 (x3 + 1)), iI (gI M 1000 (x3 + 2)), iI (gI M 1000 (x3 + 3)), none] [] M (fun M' v => Wq 56 0 0 mL_law 318 [iR 1000, iR 0, iR 80, iI x3] (v.toList ++ []) M' Q))) ∧ (bAnd (gI M 1000 x3) 63 = 4 → (((0 ≤ x3 + 1 ∧ x3 + 1 < gI M 1000 (-1)) ∧ (0 ≤ x3 + 2 ∧ x3 + 2 < gI M 1000 (-1))) ∧ Wq 3 0 0 mD_unlink 0 [iR 0, iI (gI M 1000 (x3 + 1)), iI (gI M 1000 (x3 + 2)), none] [] M (fun M' v => Wq 56 0 0 mL_law 356 [iR 1000, iR 0, iR 80, iI x3] (v.toList ++ []) M' Q))) ∧ (bAnd (gI M 1000 x3) 63 = 5 → ((0 ≤ x3 + 1 ∧ x3 + 1 < gI M 1000 (-1)) ∧ Wq 4 0 0 mD_week 0 [iR 0, iI (gI M 1000 (x3 + 1))] [] M (fun M' v => Wq 56 0 0 mL_law 384 [iR 1000, iR 0, iR 80, iI x3] (v.toList ++ []) M' Q))) ∧ (bAnd (gI M 1000 x3) 63 = 6 → (((0 ≤ x3 + 1 ∧ x3 + 1 < gI M 1000 (-1)) ∧ (0 ≤ x3 + 2 ∧ x3 + 2 < gI M 1000 (-1)) ∧ (0 ≤ x3 + 3 ∧ x3 + 3 < gI M 1000 (-1))) ∧ ((gI M 1000 (x3 + 3) = 0 → Wq 4 0 0 mD_rain 0 [iR 0, iI (gI M 1000 (x3 + 1)), iI (gI M 1000 (x3 + 2)), iI 0] [] M (fun M' v => Wq 56 0 0 mL_law 425 [iR 1000, iR 0, iR 80, iI x3] (v.toList ++ []) M' Q)) ∧ (¬ gI M 1000 (x3 + 3) = 0 → Wq 4 0 0 mD_rain 0 [iR 0, iI (gI M 1000 (x3 + 1)), iI (gI M 1000 (x3 + 2)), iI 1] [] M (fun M' v => Wq 56 0 0 mL_law 425 [iR 1000, iR 0, iR 80, iI x3] (v.toList ++ []) M' Q))))) ∧ (bAnd (gI M 1000 x3) 63 = 7 → ((0 ≤ x3 + 1 ∧ x3 + 1 < gI M 1000 (-1)) ∧ Wq 3 0 0 mD_today 0 [iR 0, iI (gI M 1000 (x3 + 1)), none] [] M (fun M' v => Wq 56 0 0 mL_law 466 [iR 1000, iR 0, iR 80, iI x3] (v.toList ++ []) M' Q))) ∧ (bAnd (gI M 1000 x3) 63 = 8 → (((0 ≤ x3 + 1 ∧ x3 + 1 < gI M 1000 (-1)) ∧ (0 ≤ x3 + 2 ∧ x3 + 2 < gI M 1000 (-1)) ∧ (0 ≤ x3 + 3 ∧ x3 + 3 < gI M 1000 (-1))) ∧ Wq 3 0 0 mD_event 0 [iR 0, iI (gI M 1000 (x3 + 1)), iI (gI M 1000 (x3 + 2)), iI (gI M 1000 (x3 + 3)), none] [] M (fun M' v => Wq 56 0 0 mL_law 499 [iR 1000, iR 0, iR 80, iI x3] (v.toList ++ []) M' Q))) ∧ (bAnd (gI M 1000 x3) 63 = 9 → (((0 ≤ x3 + 1 ∧ x3 + 1 < gI M 1000 (-1)) ∧ (0 ≤ x3 + 2 ∧ x3 + 2 < gI M 1000 (-1))) ∧ Wq 3 0 0 mD_notice 0 [iR 0, iI (gI M 1000 (x3 + 1)), iI (gI M 1000 (x3 + 2)), none] [] M (fun M' v => Wq 56 0 0 mL_law 537 [iR 1000, iR 0, iR 80, iI x3] (v.toList ++ []) M' Q))) ∧ (bAnd (gI M 1000 x3) 63 = 10 → ((0 ≤ x3 + 1 ∧ x3 + 1 < gI M 1000 (-1)) ∧ Wq 3 0 0 mD_back 0 [iR 0, iI (gI M 1000 (x3 + 1)), none] [] M (fun M' v => Wq 56 0 0 mL_law 565 [iR 1000, iR 0, iR 80, iI x3] (v.toList ++ []) M' Q))) ∧ (bAnd (gI M 1000 x3) 63 = 11 → (((0 ≤ x3 + 1 ∧ x3 + 1 < gI M 1000 (-1)) ∧ (0 ≤ x3 + 2 ∧ x3 + 2 < gI M 1000 (-1))) ∧ Wq 3 0 0 mD_of 0 [iR 0, iI (gI M 1000 (x3 + 1)), iI (gI M 1000 (x3 + 2)), none] [] M (fun M' v => Wq 56 0 0 mL_law 593 [iR 1000, iR 0, iR 80, iI x3] (v.toList ++ []) M' Q))) ∧ (bAnd (gI M 1000 x3) 63 = 12 → ((0 ≤ x3 + 1 ∧ x3 + 1 < gI M 1000 (-1)) ∧ Wq 3 0 0 mD_known 0 [iR 0, iI (gI M 1000 (x3 + 1))] [] M (fun M' v => Wq 56 0 0 mL_law 621 [iR 1000, iR 0, iR 80, iI x3] (v.toList ++ []) M' Q))) ∧ (bAnd (gI M 1000 x3) 63 = 13 → (((0 ≤ x3 + 1 ∧ x3 + 1 < gI M 1000 (-1)) ∧ (0 ≤ x3 + 2 ∧ x3 + 2 < gI M 1000 (-1)) ∧ (0 ≤ x3 + 3 ∧ x3 + 3 < gI M 1000 (-1))) ∧ Wq 5 0 0 mD_plan 0 [iR 0, iI (gI M 1000 (x3 + 1)), iI (gI M 1000 (x3 + 2)), iI (gI M 1000 (x3 + 3))] [] M (fun M' v => Wq 56 0 0 mL_law 654 [iR 1000, iR 0, iR 80, iI x3] (v.toList ++ []) M' Q))) ∧ (bAnd (gI M 1000 x3) 63 = 14 → ((0 ≤ x3 + 1 ∧ x3 + 1 < gI M 1000 (-1)) ∧ Wq 5 0 0 mD_end 0 [iR 0, iI (gI M 1000 (x3 + 1))] [] M (fun M' v => Wq 56 0 0 mL_law 687 [iR 1000, iR 0, iR 80, iI x3] (v.toList ++ []) M' Q))) ∧ (bAnd (gI M 1000 x3) 63 = 15 → (((0 ≤ x3 + 1 ∧ x3 + 1 < gI M 1000 (-1)) ∧ (0 ≤ x3 + 2 ∧ x3 + 2 < gI M 1000 (-1))) ∧ Wq 5 0 0 mD_chain 0 [iR 0, iI (gI M 1000 (x3 + 1)), iI (gI M 1000 (x3 + 2)), none, none] [] M (fun M' v => Wq 56 0 0 mL_law 715 [iR 1000, iR 0, iR 80, iI x3] (v.toList ++ []) M' Q))) ∧ (bAnd (gI M 1000 x3) 63 = 16 → (((0 ≤ x3 + 1 ∧ x3 + 1 < gI M 1000 (-1)) ∧ (0 ≤ x3 + 2 ∧ x3 + 2 < gI M 1000 (-1))) ∧ Wq 7 0 0 mD_one 0 [iR 0, iI (gI M 1000 (x3 + 1)), iI (gI M 1000 (x3 + 2)), none] [] M (fun M' v => Wq 56 0 0 mL_law 748 [iR 1000, iR 0, iR 80, iI x3] (v.toList ++ []) M' Q))) ∧ (bAnd (gI M 1000 x3) 63 = 17 → (((0 ≤ x3 + 1 ∧ x3 + 1 < gI M 1000 (-1)) ∧ (0 ≤ x3 + 2 ∧ x3 + 2 < gI M 1000 (-1))) ∧ Wq 6 0 0 mD_without 0 [iR 0, iI (gI M 1000 (x3 + 1)), iI (gI M 1000 (x3 + 2)), none] [] M (fun M' v => Wq 56 0 0 mL_law 781 [iR 1000, iR 0, iR 80, iI x3] (v.toList ++ []) M' Q))) ∧ (bAnd (gI M 1000 x3) 63 = 18 → (((0 ≤ x3 + 1 ∧ x3 + 1 < gI M 1000 (-1)) ∧ (0 ≤ x3 + 2 ∧ x3 + 2 < gI M 1000 (-1))) ∧ Wq 6 0 0 mD_butFor 0 [iR 0, iI (gI M 1000 (x3 + 1)), iI (gI M 1000 (x3 + 2)), none] [] M (fun M' v => Wq 56 0 0 mL_law 814 [iR 1000, iR 0, iR 80, iI x3] (v.toList ++ []) M' Q))) ∧ (bAnd (gI M 1000 x3) 63 = 19 → (((0 ≤ x3 + 1 ∧ x3 + 1 < gI M 1000 (-1)) ∧ (0 ≤ x3 + 2 ∧ x3 + 2 < gI M 1000 (-1)) ∧ (0 ≤ x3 + 3 ∧ x3 + 3 < gI M 1000 (-1)) ∧ (0 ≤ x3 + 4 ∧ x3 + 4 < gI M 1000 (-1))) ∧ Wq 6 0 0 mD_window 0 [iR 0, iI (gI M 1000 (x3 + 1)), iI (gI M 1000 (x3 + 2)), iI (gI M 1000 (x3 + 3)), iI (gI M 1000 (x3 + 4)), none, none, none, none, none] [] M (fun M' v => Wq 56 0 0 mL_law 857 [iR 1000, iR 0, iR 80, iI x3] (v.toList ++ []) M' Q))) ∧ (bAnd (gI M 1000 x3) 63 = 20 → (((0 ≤ x3 + 1 ∧ x3 + 1 < gI M 1000 (-1)) ∧ (0 ≤ x3 + 2 ∧ x3 + 2 < gI M 1000 (-1)) ∧ (0 ≤ x3 + 3 ∧ x3 + 3 < gI M 1000 (-1))) ∧ Wq 3 0 0 mD_feed 0 [iR 0, iL (lOr (lShl (gI M 1000 (x3 + 1)) 32) (lAnd (gI M 1000 (x3 + 2)) 4294967295)), none, iI (gI M 1000 (x3 + 3))] [] M (fun M' v => Wq 56 0 0 mL_law 915 [iR 1000, iR 0, iR 80, iI x3] (v.toList ++ []) M' Q))) ∧ (bAnd (gI M 1000 x3) 63 = 21 → (((0 ≤ x3 + 1 ∧ x3 + 1 < gI M 1000 (-1)) ∧ (0 ≤ x3 + 2 ∧ x3 + 2 < gI M 1000 (-1))) ∧ Wq 52 0 0 mD_clause 0 [iR 0, iI (gI M 1000 (x3 + 1)), iI (gI M 1000 (x3 + 2)), none, none] [] M (fun M' v => Wq 56 0 0 mL_law 963 [iR 1000, iR 0, iR 80, iI x3] (v.toList ++ []) M' Q))) ∧ (bAnd (gI M 1000 x3) 63 = 22 → (((0 ≤ x3 + 1 ∧ x3 + 1 < gI M 1000 (-1)) ∧ (0 ≤ x3 + 2 ∧ x3 + 2 < gI M 1000 (-1))) ∧ Wq 54 0 0 mD_says 0 [iR 0, iI (gI M 1000 (x3 + 1)), iI (gI M 1000 (x3 + 2))] [] M (fun M' v => Wq 56 0 0 mL_law 996 [iR 1000, iR 0, iR 80, iI x3] (v.toList ++ []) M' Q))) ∧ (bAnd (gI M 1000 x3) 63 = 23 → (((0 ≤ x3 + 1 ∧ x3 + 1 < gI M 1000 (-1)) ∧ (0 ≤ x3 + 2 ∧ x3 + 2 < gI M 1000 (-1))) ∧ Wq 3 0 0 mD_force 0 [iR 0, iI (gI M 1000 (x3 + 1)), iI (gI M 1000 (x3 + 2)), none] [] M (fun M' v => Wq 56 0 0 mL_law 1029 [iR 1000, iR 0, iR 80, iI x3] (v.toList ++ []) M' Q))) ∧ (bAnd (gI M 1000 x3) 63 = 24 → ((0 ≤ x3 + 1 ∧ x3 + 1 < gI M 1000 (-1)) ∧ Wq 55 0 0 mD_claim 0 [iR 0, iI (gI M 1000 (x3 + 1))] [] M (fun M' v => Wq 56 0 0 mL_law 1057 [iR 1000, iR 0, iR 80, iI x3] (v.toList ++ []) M' Q))) ∧ (bAnd (gI M 1000 x3) 63 = 25 → (((0 ≤ x3 + 1 ∧ x3 + 1 < gI M 1000 (-1)) ∧ (0 ≤ x3 + 2 ∧ x3 + 2 < gI M 1000 (-1)) ∧ (0 ≤ x3 + 3 ∧ x3 + 3 < gI M 1000 (-1))) ∧ Wq 3 0 0 mD_hurry 0 [iR 0, iI (gI M 1000 (x3 + 1)), iI (gI M 1000 (x3 + 2)), iI (gI M 1000 (x3 + 3)), none] [] M (fun M' v => Wq 56 0 0 mL_law 1090 [iR 1000, iR 0, iR 80, iI x3] (v.toList ++ []) M' Q))) ∧ (bAnd (gI M 1000 x3) 63 = 26 → Wq 1 0 0 mD_calm 0 [iR 0, none] [] M (fun M' v => Wq 56 0 0 mL_law 1118 [iR 1000, iR 0, iR 80, iI x3] (v.toList ++ []) M' Q)) ∧ (bAnd (gI M 1000 x3) 63 = 27 → (((0 ≤ x3 + 1 ∧ x3 + 1 < gI M 1000 (-1)) ∧ (0 ≤ x3 + 2 ∧ x3 + 2 < gI M 1000 (-1))) ∧ Wq 6 0 0 mD_least 0 [iR 0, iI (gI M 1000 (x3 + 1)), iI (gI M 1000 (x3 + 2)), none] [] M (fun M' v => Wq 56 0 0 mL_law 1141 [iR 1000, iR 0, iR 80, iI x3] (v.toList ++ []) M' Q))) ∧ (bAnd (gI M 1000 x3) 63 = 28 → (((0 ≤ x3 + 1 ∧ x3 + 1 < gI M 1000 (-1)) ∧ (0 ≤ x3 + 2 ∧ x3 + 2 < gI M 1000 (-1)) ∧ (0 ≤ x3 + 3 ∧ x3 + 3 < gI M 1000 (-1))) ∧ Wq 5 0 0 mD_proves 0 [iR 0, iI (gI M 1000 (x3 + 1)), iI (gI M 1000 (x3 + 2)), iI (gI M 1000 (x3 + 3)), none, none] [] M (fun M' v => Wq 56 0 0 mL_law 1179 [iR 1000, iR 0, iR 80, iI x3] (v.toList ++ []) M' Q))) ∧ (bAnd (gI M 1000 x3) 63 = 29 → (((0 ≤ x3 + 1 ∧ x3 + 1 < gI M 1000 (-1)) ∧ (0 ≤ x3 + 2 ∧ x3 + 2 < gI M 1000 (-1)) ∧ (0 ≤ x3 + 3 ∧ x3 + 3 < gI M 1000 (-1))) ∧ Wq 52 0 0 mD_voice 0 [iR 0, iI (gI M 1000 (x3 + 1)), iI (gI M 1000 (x3 + 2)), iI (gI M 1000 (x3 + 3))] [] M (fun M' v => Wq 56 0 0 mL_law 1222 [iR 1000, iR 0, iR 80, iI x3] (v.toList ++ []) M' Q))) ∧ (bAnd (gI M 1000 x3) 63 = 30 → ((0 ≤ x3 + 1 ∧ x3 + 1 < gI M 1000 (-1)) ∧ Wq 3 0 0 mD_trace 0 [iR 0, iI (gI M 1000 (x3 + 1))] [] M (fun M' v => Wq 56 0 0 mL_law 1255 [iR 1000, iR 0, iR 80, iI x3] (v.toList ++ []) M' Q))) ∧ (bAnd (gI M 1000 x3) 63 = 31 → (((0 ≤ x3 + 1 ∧ x3 + 1 < gI M 1000 (-1)) ∧ (0 ≤ x3 + 2 ∧ x3 + 2 < gI M 1000 (-1)) ∧ (0 ≤ x3 + 3 ∧ x3 + 3 < gI M 1000 (-1))) ∧ Wq 3 0 0 mD_sheet 0 [iR 0, iI (gI M 1000 (x3 + 1)), iI (gI M 1000 (x3 + 2)), iI (gI M 1000 (x3 + 3))] [] M (fun M' v => Wq 56 0 0 mL_law 1288 [iR 1000, iR 0, iR 80, iI x3] (v.toList ++ []) M' Q))) ∧ (bAnd (gI M 1000 x3) 63 = 32 → (((0 ≤ x3 + 1 ∧ x3 + 1 < gI M 1000 (-1)) ∧ (0 ≤ x3 + 2 ∧ x3 + 2 < gI M 1000 (-1)) ∧ (0 ≤ x3 + 3 ∧ x3 + 3 < gI M 1000 (-1))) ∧ Wq 3 0 0 mD_put 0 [iR 0, iI (gI M 1000 (x3 + 1)), iI (gI M 1000 (x3 + 2)), iI (gI M 1000 (x3 + 3)), none] [] M (fun M' v => Wq 56 0 0 mL_law 1331 [iR 1000, iR 0, iR 80, iI x3] (v.toList ++ []) M' Q))) ∧ (bAnd (gI M 1000 x3) 63 = 33 → (((0 ≤ x3 + 1 ∧ x3 + 1 < gI M 1000 (-1)) ∧ (0 ≤ x3 + 2 ∧ x3 + 2 < gI M 1000 (-1)) ∧ (0 ≤ x3 + 3 ∧ x3 + 3 < gI M 1000 (-1)) ∧ (0 ≤ x3 + 4 ∧ x3 + 4 < gI M 1000 (-1)) ∧ (0 ≤ x3 + 5 ∧ x3 + 5 < gI M 1000 (-1))) ∧ Wq 3 0 0 mD_move 0 [iR 0, iI (gI M 1000 (x3 + 1)), iI (gI M 1000 (x3 + 2)), iI (gI M 1000 (x3 + 3)), iI (gI M 1000 (x3 + 4)), iI (gI M 1000 (x3 + 5)), none, none] [] M (fun M' v => Wq 56 0 0 mL_law 1384 [iR 1000, iR 0, iR 80, iI x3] (v.toList ++ []) M' Q))) ∧ (bAnd (gI M 1000 x3) 63 = 34 → Wq 3 0 0 mD_image 0 [iR 0] [] M (fun M' v => Wq 56 0 0 mL_law 1422 [iR 1000, iR 0, iR 80, iI x3] (v.toList ++ []) M' Q)) ∧ (bAnd (gI M 1000 x3) 63 = 35 → Wq 3 0 0 mD_restore 0 [iR 0] [] M (fun M' v => Wq 56 0 0 mL_law 1435 [iR 1000, iR 0, iR 80, iI x3] (v.toList ++ []) M' Q)) ∧ (bAnd (gI M 1000 x3) 63 = 36 → ((0 ≤ x3 + 1 ∧ x3 + 1 < gI M 1000 (-1)) ∧ Wq 3 0 0 mD_told 0 [iR 0, iI (gI M 1000 (x3 + 1))] [] M (fun M' v => Wq 56 0 0 mL_law 1453 [iR 1000, iR 0, iR 80, iI x3] (v.toList ++ []) M' Q))) ∧ (bAnd (gI M 1000 x3) 63 = 37 → ((0 ≤ x3 + 1 ∧ x3 + 1 < gI M 1000 (-1)) ∧ Wq 3 0 0 mD_found 0 [iR 0, iI (gI M 1000 (x3 + 1))] [] M (fun M' v => Wq 56 0 0 mL_law 1476 [iR 1000, iR 0, iR 80, iI x3] (v.toList ++ []) M' Q))) ∧ (¬ bAnd (gI M 1000 x3) 63 = 0 ∧ ¬ bAnd (gI M 1000 x3) 63 = 1 ∧ ¬ bAnd (gI M 1000 x3) 63 = 2 ∧ ¬ bAnd (gI M 1000 x3) 63 = 3 ∧ ¬ bAnd (gI M 1000 x3) 63 = 4 ∧ ¬ bAnd (gI M 1000 x3) 63 = 5 ∧ ¬ bAnd (gI M 1000 x3) 63 = 6 ∧ ¬ bAnd (gI M 1000 x3) 63 = 7 ∧ ¬ bAnd (gI M 1000 x3) 63 = 8 ∧ ¬ bAnd (gI M 1000 x3) 63 = 9 ∧ ¬ bAnd (gI M 1000 x3) 63 = 10 ∧ ¬ bAnd (gI M 1000 x3) 63 = 11 ∧ ¬ bAnd (gI M 1000 x3) 63 = 12 ∧ ¬ bAnd (gI M 1000 x3) 63 = 13 ∧ ¬ bAnd (gI M 1000 x3) 63 = 14 ∧ ¬ bAnd (gI M 1000 x3) 63 = 15 ∧ ¬ bAnd (gI M 1000 x3) 63 = 16 ∧ ¬ bAnd (gI M 1000 x3) 63 = 17 ∧ ¬ bAnd (gI M 1000 x3) 63 = 18 ∧ ¬ bAnd (gI M 1000 x3) 63 = 19 ∧ ¬ bAnd (gI M 1000 x3) 63 = 20 ∧ ¬ bAnd (gI M 1000 x3) 63 = 21 ∧ ¬ bAnd (gI M 1000 x3) 63 = 22 ∧ ¬ bAnd (gI M 1000 x3) 63 = 23 ∧ ¬ bAnd (gI M 1000 x3) 63 = 24 ∧ ¬ bAnd (gI M 1000 x3) 63 = 25 ∧ ¬ bAnd (gI M 1000 x3) 63 = 26 ∧ ¬ bAnd (gI M 1000 x3) 63 = 27 ∧ ¬ bAnd (gI M 1000 x3) 63 = 28 ∧ ¬ bAnd (gI M 1000 x3) 63 = 29 ∧ ¬ bAnd (gI M 1000 x3) 63 = 30 ∧ ¬ bAnd (gI M 1000 x3) 63 = 31 ∧ ¬ bAnd (gI M 1000 x3) 63 = 32 ∧ ¬ bAnd (gI M 1000 x3) 63 = 33 ∧ ¬ bAnd (gI M 1000 x3) 63 = 34 ∧ ¬ bAnd (gI M 1000 x3) 63 = 35 ∧ ¬ bAnd (gI M 1000 x3) 63 = 36 ∧ ¬ bAnd (gI M 1000 x3) 63 = 37 → ((-2147483648 ≤ x3 + 6 ∧ x3 + 6 < 2147483648) ∧ Wq 56 0 0 mL_law 18 [iR 1000, iR 0, iR 80, iI (x3 + 6)] [] M Q)))))))) : Wq 56 0 0 mL_law 18 [iR 1000, iR 0, iR 80, iI x3] [] M Q := by
  obtain ⟨s1, H⟩ := H
  refine wq_iload_n (pc := 18) dL_law_18 rfl rfl ?_
  refine wq_aload_n (pc := 19) dL_law_19 rfl rfl ?_
  refine wq_slen (pc := 20) dL_law_20 ?_
  refine wq_bipush (pc := 21) dL_law_21 rfl ?_
  refine wq_isub (pc := 23) dL_law_23 ?_
  refine wq_re (x := (wr (gI M 1000 (-1) - 6))) (y := (gI M 1000 (-1) - 6)) (Eq.trans (wr_eq (by omega) (by omega)) (by omega)) ?_
  refine wq_icmp_gt (pc := 24) (tgt := 1496) dL_law_24 (by decide) (fun c2 => ?_) (fun c2 => ?_)
  · have H := H.1 c2
    refine wq_iconst (pc := 1496) dL_law_1496 rfl ?_
    refine wq_ireturn (pc := 1497) dL_law_1497 (Or.inr rfl) ?_
    exact H
  · have H := H.2 c2
    obtain ⟨s3, H⟩ := H
    refine wq_aload_n (pc := 27) dL_law_27 rfl rfl ?_
    refine wq_iload_n (pc := 28) dL_law_28 rfl rfl ?_
    refine wq_sld (pc := 29) dL_law_29 s3.1 s3.2 ?_
    refine wq_bipush (pc := 30) dL_law_30 rfl ?_
    refine wq_iand (pc := 32) dL_law_32 ?_
    by_cases c4 : bAnd (gI M 1000 x3) 63 = 0
    · refine wq_tabIn (pc := 33) (tgt := 200) dL_law_33 (by rw [c4]; decide) (by rw [c4]; decide) (by rw [c4]; rfl) (by decide) ?_
      have H := H.1 c4
      obtain ⟨⟨s5, s6⟩, H⟩ := H
      refine wq_aload_n (pc := 200) dL_law_200 rfl rfl ?_
      refine wq_aload_n (pc := 201) dL_law_201 rfl rfl ?_
      refine wq_iload_n (pc := 202) dL_law_202 rfl rfl ?_
      refine wq_iconst (pc := 203) dL_law_203 rfl ?_
      refine wq_iadd (pc := 204) dL_law_204 ?_
      refine wq_re (x := (wr (x3 + 1))) (y := (x3 + 1)) (Eq.trans (wr_eq (by omega) (by omega)) (by omega)) ?_
      refine wq_sld (pc := 205) dL_law_205 s5.1 s5.2 ?_
      refine wq_aload_n (pc := 206) dL_law_206 rfl rfl ?_
      refine wq_iload_n (pc := 207) dL_law_207 rfl rfl ?_
      refine wq_iconst (pc := 208) dL_law_208 rfl ?_
      refine wq_iadd (pc := 209) dL_law_209 ?_
      refine wq_re (x := (wr (x3 + 2))) (y := (x3 + 2)) (Eq.trans (wr_eq (by omega) (by omega)) (by omega)) ?_
      refine wq_sld (pc := 210) dL_law_210 s6.1 s6.2 ?_
      refine wq_callV (d' := 3) (pc := 211) (as := [vI (gI M 1000 (x3 + 1)), vI (gI M 1000 (x3 + 2))]) (rest := []) (lo' := [iR 0, iI (gI M 1000 (x3 + 1)), iI (gI M 1000 (x3 + 2))]) dL_law_211 mO_D_work lV_L_13 sh_0 (by decide) cl_10 rfl rfl rfl rfl rfl rfl ?_
      exact H
    by_cases c7 : bAnd (gI M 1000 x3) 63 = 1
    · refine wq_tabIn (pc := 33) (tgt := 233) dL_law_33 (by rw [c7]; decide) (by rw [c7]; decide) (by rw [c7]; rfl) (by decide) ?_
      have H := H.2.1 c7
      obtain ⟨⟨s8, s9⟩, H⟩ := H
      refine wq_aload_n (pc := 233) dL_law_233 rfl rfl ?_
      refine wq_aload_n (pc := 234) dL_law_234 rfl rfl ?_
      refine wq_iload_n (pc := 235) dL_law_235 rfl rfl ?_
      refine wq_iconst (pc := 236) dL_law_236 rfl ?_
      refine wq_iadd (pc := 237) dL_law_237 ?_
      refine wq_re (x := (wr (x3 + 1))) (y := (x3 + 1)) (Eq.trans (wr_eq (by omega) (by omega)) (by omega)) ?_
      refine wq_sld (pc := 238) dL_law_238 s8.1 s8.2 ?_
      refine wq_aload_n (pc := 239) dL_law_239 rfl rfl ?_
      refine wq_iload_n (pc := 240) dL_law_240 rfl rfl ?_
      refine wq_iconst (pc := 241) dL_law_241 rfl ?_
      refine wq_iadd (pc := 242) dL_law_242 ?_
      refine wq_re (x := (wr (x3 + 2))) (y := (x3 + 2)) (Eq.trans (wr_eq (by omega) (by omega)) (by omega)) ?_
      refine wq_sld (pc := 243) dL_law_243 s9.1 s9.2 ?_
      refine wq_callV (d' := 4) (pc := 244) (as := [vI (gI M 1000 (x3 + 1)), vI (gI M 1000 (x3 + 2))]) (rest := []) (lo' := [iR 0, iI (gI M 1000 (x3 + 1)), iI (gI M 1000 (x3 + 2)), none]) dL_law_244 mO_D_as lV_L_18 sh_0 (by decide) cl_10 rfl rfl rfl rfl rfl rfl ?_
      exact H
    by_cases c10 : bAnd (gI M 1000 x3) 63 = 2
    · refine wq_tabIn (pc := 33) (tgt := 266) dL_law_33 (by rw [c10]; decide) (by rw [c10]; decide) (by rw [c10]; rfl) (by decide) ?_
      have H := H.2.2.1 c10
      obtain ⟨⟨s11, s12⟩, H⟩ := H
      refine wq_aload_n (pc := 266) dL_law_266 rfl rfl ?_
      refine wq_aload_n (pc := 267) dL_law_267 rfl rfl ?_
      refine wq_iload_n (pc := 268) dL_law_268 rfl rfl ?_
      refine wq_iconst (pc := 269) dL_law_269 rfl ?_
      refine wq_iadd (pc := 270) dL_law_270 ?_
      refine wq_re (x := (wr (x3 + 1))) (y := (x3 + 1)) (Eq.trans (wr_eq (by omega) (by omega)) (by omega)) ?_
      refine wq_sld (pc := 271) dL_law_271 s11.1 s11.2 ?_
      refine wq_aload_n (pc := 272) dL_law_272 rfl rfl ?_
      refine wq_iload_n (pc := 273) dL_law_273 rfl rfl ?_
      refine wq_iconst (pc := 274) dL_law_274 rfl ?_
      refine wq_iadd (pc := 275) dL_law_275 ?_
      refine wq_re (x := (wr (x3 + 2))) (y := (x3 + 2)) (Eq.trans (wr_eq (by omega) (by omega)) (by omega)) ?_
      refine wq_sld (pc := 276) dL_law_276 s12.1 s12.2 ?_
      refine wq_callV (d' := 3) (pc := 277) (as := [vI (gI M 1000 (x3 + 1)), vI (gI M 1000 (x3 + 2))]) (rest := []) (lo' := [iR 0, iI (gI M 1000 (x3 + 1)), iI (gI M 1000 (x3 + 2)), none, none]) dL_law_277 mO_D_edit lV_L_22 sh_0 (by decide) cl_10 rfl rfl rfl rfl rfl rfl ?_
      exact H
    by_cases c13 : bAnd (gI M 1000 x3) 63 = 3
    · refine wq_tabIn (pc := 33) (tgt := 299) dL_law_33 (by rw [c13]; decide) (by rw [c13]; decide) (by rw [c13]; rfl) (by decide) ?_
      have H := H.2.2.2.1 c13
      obtain ⟨⟨s14, s15, s16⟩, H⟩ := H
      refine wq_aload_n (pc := 299) dL_law_299 rfl rfl ?_
      refine wq_aload_n (pc := 300) dL_law_300 rfl rfl ?_
      refine wq_iload_n (pc := 301) dL_law_301 rfl rfl ?_
      refine wq_iconst (pc := 302) dL_law_302 rfl ?_
      refine wq_iadd (pc := 303) dL_law_303 ?_
      refine wq_re (x := (wr (x3 + 1))) (y := (x3 + 1)) (Eq.trans (wr_eq (by omega) (by omega)) (by omega)) ?_
      refine wq_sld (pc := 304) dL_law_304 s14.1 s14.2 ?_
      refine wq_aload_n (pc := 305) dL_law_305 rfl rfl ?_
      refine wq_iload_n (pc := 306) dL_law_306 rfl rfl ?_
      refine wq_iconst (pc := 307) dL_law_307 rfl ?_
      refine wq_iadd (pc := 308) dL_law_308 ?_
      refine wq_re (x := (wr (x3 + 2))) (y := (x3 + 2)) (Eq.trans (wr_eq (by omega) (by omega)) (by omega)) ?_
      refine wq_sld (pc := 309) dL_law_309 s15.1 s15.2 ?_
      refine wq_aload_n (pc := 310) dL_law_310 rfl rfl ?_
      refine wq_iload_n (pc := 311) dL_law_311 rfl rfl ?_
      refine wq_iconst (pc := 312) dL_law_312 rfl ?_
      refine wq_iadd (pc := 313) dL_law_313 ?_
      refine wq_re (x := (wr (x3 + 3))) (y := (x3 + 3)) (Eq.trans (wr_eq (by omega) (by omega)) (by omega)) ?_
      refine wq_sld (pc := 314) dL_law_314 s16.1 s16.2 ?_
      refine wq_callV (d' := 5) (pc := 315) (as := [vI (gI M 1000 (x3 + 1)), vI (gI M 1000 (x3 + 2)), vI (gI M 1000 (x3 + 3))]) (rest := []) (lo' := [iR 0, iI (gI M 1000 (x3 + 1)), iI (gI M 1000 (x3 + 2)), iI (gI M 1000 (x3 + 3)), none]) dL_law_315 mO_D_link lV_L_26 sh_0 (by decide) cl_10 rfl rfl rfl rfl rfl rfl ?_
      exact H
    by_cases c17 : bAnd (gI M 1000 x3) 63 = 4
    · refine wq_tabIn (pc := 33) (tgt := 342) dL_law_33 (by rw [c17]; decide) (by rw [c17]; decide) (by rw [c17]; rfl) (by decide) ?_
      have H := H.2.2.2.2.1 c17
      obtain ⟨⟨s18, s19⟩, H⟩ := H
      refine wq_aload_n (pc := 342) dL_law_342 rfl rfl ?_
      refine wq_aload_n (pc := 343) dL_law_343 rfl rfl ?_
      refine wq_iload_n (pc := 344) dL_law_344 rfl rfl ?_
      refine wq_iconst (pc := 345) dL_law_345 rfl ?_
      refine wq_iadd (pc := 346) dL_law_346 ?_
      refine wq_re (x := (wr (x3 + 1))) (y := (x3 + 1)) (Eq.trans (wr_eq (by omega) (by omega)) (by omega)) ?_
      refine wq_sld (pc := 347) dL_law_347 s18.1 s18.2 ?_
      refine wq_aload_n (pc := 348) dL_law_348 rfl rfl ?_
      refine wq_iload_n (pc := 349) dL_law_349 rfl rfl ?_
      refine wq_iconst (pc := 350) dL_law_350 rfl ?_
      refine wq_iadd (pc := 351) dL_law_351 ?_
      refine wq_re (x := (wr (x3 + 2))) (y := (x3 + 2)) (Eq.trans (wr_eq (by omega) (by omega)) (by omega)) ?_
      refine wq_sld (pc := 352) dL_law_352 s19.1 s19.2 ?_
      refine wq_callV (d' := 3) (pc := 353) (as := [vI (gI M 1000 (x3 + 1)), vI (gI M 1000 (x3 + 2))]) (rest := []) (lo' := [iR 0, iI (gI M 1000 (x3 + 1)), iI (gI M 1000 (x3 + 2)), none]) dL_law_353 mO_D_unlink lV_L_31 sh_0 (by decide) cl_10 rfl rfl rfl rfl rfl rfl ?_
      exact H
    by_cases c20 : bAnd (gI M 1000 x3) 63 = 5
    · refine wq_tabIn (pc := 33) (tgt := 375) dL_law_33 (by rw [c20]; decide) (by rw [c20]; decide) (by rw [c20]; rfl) (by decide) ?_
      have H := H.2.2.2.2.2.1 c20
      obtain ⟨s21, H⟩ := H
      refine wq_aload_n (pc := 375) dL_law_375 rfl rfl ?_
      refine wq_aload_n (pc := 376) dL_law_376 rfl rfl ?_
      refine wq_iload_n (pc := 377) dL_law_377 rfl rfl ?_
      refine wq_iconst (pc := 378) dL_law_378 rfl ?_
      refine wq_iadd (pc := 379) dL_law_379 ?_
      refine wq_re (x := (wr (x3 + 1))) (y := (x3 + 1)) (Eq.trans (wr_eq (by omega) (by omega)) (by omega)) ?_
      refine wq_sld (pc := 380) dL_law_380 s21.1 s21.2 ?_
      refine wq_callV (d' := 4) (pc := 381) (as := [vI (gI M 1000 (x3 + 1))]) (rest := []) (lo' := [iR 0, iI (gI M 1000 (x3 + 1))]) dL_law_381 mO_D_week lV_L_35 sh_0 (by decide) cl_10 rfl rfl rfl rfl rfl rfl ?_
      exact H
    by_cases c22 : bAnd (gI M 1000 x3) 63 = 6
    · refine wq_tabIn (pc := 33) (tgt := 398) dL_law_33 (by rw [c22]; decide) (by rw [c22]; decide) (by rw [c22]; rfl) (by decide) ?_
      have H := H.2.2.2.2.2.2.1 c22
      obtain ⟨⟨s23, s24, s25⟩, H⟩ := H
      refine wq_aload_n (pc := 398) dL_law_398 rfl rfl ?_
      refine wq_aload_n (pc := 399) dL_law_399 rfl rfl ?_
      refine wq_iload_n (pc := 400) dL_law_400 rfl rfl ?_
      refine wq_iconst (pc := 401) dL_law_401 rfl ?_
      refine wq_iadd (pc := 402) dL_law_402 ?_
      refine wq_re (x := (wr (x3 + 1))) (y := (x3 + 1)) (Eq.trans (wr_eq (by omega) (by omega)) (by omega)) ?_
      refine wq_sld (pc := 403) dL_law_403 s23.1 s23.2 ?_
      refine wq_aload_n (pc := 404) dL_law_404 rfl rfl ?_
      refine wq_iload_n (pc := 405) dL_law_405 rfl rfl ?_
      refine wq_iconst (pc := 406) dL_law_406 rfl ?_
      refine wq_iadd (pc := 407) dL_law_407 ?_
      refine wq_re (x := (wr (x3 + 2))) (y := (x3 + 2)) (Eq.trans (wr_eq (by omega) (by omega)) (by omega)) ?_
      refine wq_sld (pc := 408) dL_law_408 s24.1 s24.2 ?_
      refine wq_aload_n (pc := 409) dL_law_409 rfl rfl ?_
      refine wq_iload_n (pc := 410) dL_law_410 rfl rfl ?_
      refine wq_iconst (pc := 411) dL_law_411 rfl ?_
      refine wq_iadd (pc := 412) dL_law_412 ?_
      refine wq_re (x := (wr (x3 + 3))) (y := (x3 + 3)) (Eq.trans (wr_eq (by omega) (by omega)) (by omega)) ?_
      refine wq_sld (pc := 413) dL_law_413 s25.1 s25.2 ?_
      refine wq_if_eq (pc := 414) (tgt := 421) dL_law_414 (by decide) (fun c26 => ?_) (fun c26 => ?_)
      · have H := H.1 c26
        refine wq_iconst (pc := 421) dL_law_421 rfl ?_
        refine wq_callV (d' := 4) (pc := 422) (as := [vI (gI M 1000 (x3 + 1)), vI (gI M 1000 (x3 + 2)), vI 0]) (rest := []) (lo' := [iR 0, iI (gI M 1000 (x3 + 1)), iI (gI M 1000 (x3 + 2)), iI 0]) dL_law_422 mO_D_rain lV_L_40 sh_0 (by decide) cl_10 rfl rfl rfl rfl rfl rfl ?_
        exact H
      · have H := H.2 c26
        refine wq_iconst (pc := 417) dL_law_417 rfl ?_
        refine wq_goto (pc := 418) (tgt := 422) dL_law_418 (by decide) ?_
        refine wq_callV (d' := 4) (pc := 422) (as := [vI (gI M 1000 (x3 + 1)), vI (gI M 1000 (x3 + 2)), vI 1]) (rest := []) (lo' := [iR 0, iI (gI M 1000 (x3 + 1)), iI (gI M 1000 (x3 + 2)), iI 1]) dL_law_422 mO_D_rain lV_L_40 sh_0 (by decide) cl_10 rfl rfl rfl rfl rfl rfl ?_
        exact H
    by_cases c27 : bAnd (gI M 1000 x3) 63 = 7
    · refine wq_tabIn (pc := 33) (tgt := 457) dL_law_33 (by rw [c27]; decide) (by rw [c27]; decide) (by rw [c27]; rfl) (by decide) ?_
      have H := H.2.2.2.2.2.2.2.1 c27
      obtain ⟨s28, H⟩ := H
      refine wq_aload_n (pc := 457) dL_law_457 rfl rfl ?_
      refine wq_aload_n (pc := 458) dL_law_458 rfl rfl ?_
      refine wq_iload_n (pc := 459) dL_law_459 rfl rfl ?_
      refine wq_iconst (pc := 460) dL_law_460 rfl ?_
      refine wq_iadd (pc := 461) dL_law_461 ?_
      refine wq_re (x := (wr (x3 + 1))) (y := (x3 + 1)) (Eq.trans (wr_eq (by omega) (by omega)) (by omega)) ?_
      refine wq_sld (pc := 462) dL_law_462 s28.1 s28.2 ?_
      refine wq_callV (d' := 3) (pc := 463) (as := [vI (gI M 1000 (x3 + 1))]) (rest := []) (lo' := [iR 0, iI (gI M 1000 (x3 + 1)), none]) dL_law_463 mO_D_today lV_L_45 sh_0 (by decide) cl_10 rfl rfl rfl rfl rfl rfl ?_
      exact H
    by_cases c29 : bAnd (gI M 1000 x3) 63 = 8
    · refine wq_tabIn (pc := 33) (tgt := 480) dL_law_33 (by rw [c29]; decide) (by rw [c29]; decide) (by rw [c29]; rfl) (by decide) ?_
      have H := H.2.2.2.2.2.2.2.2.1 c29
      obtain ⟨⟨s30, s31, s32⟩, H⟩ := H
      refine wq_aload_n (pc := 480) dL_law_480 rfl rfl ?_
      refine wq_aload_n (pc := 481) dL_law_481 rfl rfl ?_
      refine wq_iload_n (pc := 482) dL_law_482 rfl rfl ?_
      refine wq_iconst (pc := 483) dL_law_483 rfl ?_
      refine wq_iadd (pc := 484) dL_law_484 ?_
      refine wq_re (x := (wr (x3 + 1))) (y := (x3 + 1)) (Eq.trans (wr_eq (by omega) (by omega)) (by omega)) ?_
      refine wq_sld (pc := 485) dL_law_485 s30.1 s30.2 ?_
      refine wq_aload_n (pc := 486) dL_law_486 rfl rfl ?_
      refine wq_iload_n (pc := 487) dL_law_487 rfl rfl ?_
      refine wq_iconst (pc := 488) dL_law_488 rfl ?_
      refine wq_iadd (pc := 489) dL_law_489 ?_
      refine wq_re (x := (wr (x3 + 2))) (y := (x3 + 2)) (Eq.trans (wr_eq (by omega) (by omega)) (by omega)) ?_
      refine wq_sld (pc := 490) dL_law_490 s31.1 s31.2 ?_
      refine wq_aload_n (pc := 491) dL_law_491 rfl rfl ?_
      refine wq_iload_n (pc := 492) dL_law_492 rfl rfl ?_
      refine wq_iconst (pc := 493) dL_law_493 rfl ?_
      refine wq_iadd (pc := 494) dL_law_494 ?_
      refine wq_re (x := (wr (x3 + 3))) (y := (x3 + 3)) (Eq.trans (wr_eq (by omega) (by omega)) (by omega)) ?_
      refine wq_sld (pc := 495) dL_law_495 s32.1 s32.2 ?_
      refine wq_callV (d' := 3) (pc := 496) (as := [vI (gI M 1000 (x3 + 1)), vI (gI M 1000 (x3 + 2)), vI (gI M 1000 (x3 + 3))]) (rest := []) (lo' := [iR 0, iI (gI M 1000 (x3 + 1)), iI (gI M 1000 (x3 + 2)), iI (gI M 1000 (x3 + 3)), none]) dL_law_496 mO_D_event lV_L_49 sh_0 (by decide) cl_10 rfl rfl rfl rfl rfl rfl ?_
      exact H
    by_cases c33 : bAnd (gI M 1000 x3) 63 = 9
    · refine wq_tabIn (pc := 33) (tgt := 523) dL_law_33 (by rw [c33]; decide) (by rw [c33]; decide) (by rw [c33]; rfl) (by decide) ?_
      have H := H.2.2.2.2.2.2.2.2.2.1 c33
      obtain ⟨⟨s34, s35⟩, H⟩ := H
      refine wq_aload_n (pc := 523) dL_law_523 rfl rfl ?_
      refine wq_aload_n (pc := 524) dL_law_524 rfl rfl ?_
      refine wq_iload_n (pc := 525) dL_law_525 rfl rfl ?_
      refine wq_iconst (pc := 526) dL_law_526 rfl ?_
      refine wq_iadd (pc := 527) dL_law_527 ?_
      refine wq_re (x := (wr (x3 + 1))) (y := (x3 + 1)) (Eq.trans (wr_eq (by omega) (by omega)) (by omega)) ?_
      refine wq_sld (pc := 528) dL_law_528 s34.1 s34.2 ?_
      refine wq_aload_n (pc := 529) dL_law_529 rfl rfl ?_
      refine wq_iload_n (pc := 530) dL_law_530 rfl rfl ?_
      refine wq_iconst (pc := 531) dL_law_531 rfl ?_
      refine wq_iadd (pc := 532) dL_law_532 ?_
      refine wq_re (x := (wr (x3 + 2))) (y := (x3 + 2)) (Eq.trans (wr_eq (by omega) (by omega)) (by omega)) ?_
      refine wq_sld (pc := 533) dL_law_533 s35.1 s35.2 ?_
      refine wq_callV (d' := 3) (pc := 534) (as := [vI (gI M 1000 (x3 + 1)), vI (gI M 1000 (x3 + 2))]) (rest := []) (lo' := [iR 0, iI (gI M 1000 (x3 + 1)), iI (gI M 1000 (x3 + 2)), none]) dL_law_534 mO_D_notice lV_L_53 sh_0 (by decide) cl_10 rfl rfl rfl rfl rfl rfl ?_
      exact H
    by_cases c36 : bAnd (gI M 1000 x3) 63 = 10
    · refine wq_tabIn (pc := 33) (tgt := 556) dL_law_33 (by rw [c36]; decide) (by rw [c36]; decide) (by rw [c36]; rfl) (by decide) ?_
      have H := H.2.2.2.2.2.2.2.2.2.2.1 c36
      obtain ⟨s37, H⟩ := H
      refine wq_aload_n (pc := 556) dL_law_556 rfl rfl ?_
      refine wq_aload_n (pc := 557) dL_law_557 rfl rfl ?_
      refine wq_iload_n (pc := 558) dL_law_558 rfl rfl ?_
      refine wq_iconst (pc := 559) dL_law_559 rfl ?_
      refine wq_iadd (pc := 560) dL_law_560 ?_
      refine wq_re (x := (wr (x3 + 1))) (y := (x3 + 1)) (Eq.trans (wr_eq (by omega) (by omega)) (by omega)) ?_
      refine wq_sld (pc := 561) dL_law_561 s37.1 s37.2 ?_
      refine wq_callV (d' := 3) (pc := 562) (as := [vI (gI M 1000 (x3 + 1))]) (rest := []) (lo' := [iR 0, iI (gI M 1000 (x3 + 1)), none]) dL_law_562 mO_D_back lV_L_57 sh_0 (by decide) cl_10 rfl rfl rfl rfl rfl rfl ?_
      exact H
    by_cases c38 : bAnd (gI M 1000 x3) 63 = 11
    · refine wq_tabIn (pc := 33) (tgt := 579) dL_law_33 (by rw [c38]; decide) (by rw [c38]; decide) (by rw [c38]; rfl) (by decide) ?_
      have H := H.2.2.2.2.2.2.2.2.2.2.2.1 c38
      obtain ⟨⟨s39, s40⟩, H⟩ := H
      refine wq_aload_n (pc := 579) dL_law_579 rfl rfl ?_
      refine wq_aload_n (pc := 580) dL_law_580 rfl rfl ?_
      refine wq_iload_n (pc := 581) dL_law_581 rfl rfl ?_
      refine wq_iconst (pc := 582) dL_law_582 rfl ?_
      refine wq_iadd (pc := 583) dL_law_583 ?_
      refine wq_re (x := (wr (x3 + 1))) (y := (x3 + 1)) (Eq.trans (wr_eq (by omega) (by omega)) (by omega)) ?_
      refine wq_sld (pc := 584) dL_law_584 s39.1 s39.2 ?_
      refine wq_aload_n (pc := 585) dL_law_585 rfl rfl ?_
      refine wq_iload_n (pc := 586) dL_law_586 rfl rfl ?_
      refine wq_iconst (pc := 587) dL_law_587 rfl ?_
      refine wq_iadd (pc := 588) dL_law_588 ?_
      refine wq_re (x := (wr (x3 + 2))) (y := (x3 + 2)) (Eq.trans (wr_eq (by omega) (by omega)) (by omega)) ?_
      refine wq_sld (pc := 589) dL_law_589 s40.1 s40.2 ?_
      refine wq_callV (d' := 3) (pc := 590) (as := [vI (gI M 1000 (x3 + 1)), vI (gI M 1000 (x3 + 2))]) (rest := []) (lo' := [iR 0, iI (gI M 1000 (x3 + 1)), iI (gI M 1000 (x3 + 2)), none]) dL_law_590 mO_D_of lV_L_61 sh_0 (by decide) cl_10 rfl rfl rfl rfl rfl rfl ?_
      exact H
    by_cases c41 : bAnd (gI M 1000 x3) 63 = 12
    · refine wq_tabIn (pc := 33) (tgt := 612) dL_law_33 (by rw [c41]; decide) (by rw [c41]; decide) (by rw [c41]; rfl) (by decide) ?_
      have H := H.2.2.2.2.2.2.2.2.2.2.2.2.1 c41
      obtain ⟨s42, H⟩ := H
      refine wq_aload_n (pc := 612) dL_law_612 rfl rfl ?_
      refine wq_aload_n (pc := 613) dL_law_613 rfl rfl ?_
      refine wq_iload_n (pc := 614) dL_law_614 rfl rfl ?_
      refine wq_iconst (pc := 615) dL_law_615 rfl ?_
      refine wq_iadd (pc := 616) dL_law_616 ?_
      refine wq_re (x := (wr (x3 + 1))) (y := (x3 + 1)) (Eq.trans (wr_eq (by omega) (by omega)) (by omega)) ?_
      refine wq_sld (pc := 617) dL_law_617 s42.1 s42.2 ?_
      refine wq_callV (d' := 3) (pc := 618) (as := [vI (gI M 1000 (x3 + 1))]) (rest := []) (lo' := [iR 0, iI (gI M 1000 (x3 + 1))]) dL_law_618 mO_D_known lV_L_65 sh_0 (by decide) cl_10 rfl rfl rfl rfl rfl rfl ?_
      exact H
    by_cases c43 : bAnd (gI M 1000 x3) 63 = 13
    · refine wq_tabIn (pc := 33) (tgt := 635) dL_law_33 (by rw [c43]; decide) (by rw [c43]; decide) (by rw [c43]; rfl) (by decide) ?_
      have H := H.2.2.2.2.2.2.2.2.2.2.2.2.2.1 c43
      obtain ⟨⟨s44, s45, s46⟩, H⟩ := H
      refine wq_aload_n (pc := 635) dL_law_635 rfl rfl ?_
      refine wq_aload_n (pc := 636) dL_law_636 rfl rfl ?_
      refine wq_iload_n (pc := 637) dL_law_637 rfl rfl ?_
      refine wq_iconst (pc := 638) dL_law_638 rfl ?_
      refine wq_iadd (pc := 639) dL_law_639 ?_
      refine wq_re (x := (wr (x3 + 1))) (y := (x3 + 1)) (Eq.trans (wr_eq (by omega) (by omega)) (by omega)) ?_
      refine wq_sld (pc := 640) dL_law_640 s44.1 s44.2 ?_
      refine wq_aload_n (pc := 641) dL_law_641 rfl rfl ?_
      refine wq_iload_n (pc := 642) dL_law_642 rfl rfl ?_
      refine wq_iconst (pc := 643) dL_law_643 rfl ?_
      refine wq_iadd (pc := 644) dL_law_644 ?_
      refine wq_re (x := (wr (x3 + 2))) (y := (x3 + 2)) (Eq.trans (wr_eq (by omega) (by omega)) (by omega)) ?_
      refine wq_sld (pc := 645) dL_law_645 s45.1 s45.2 ?_
      refine wq_aload_n (pc := 646) dL_law_646 rfl rfl ?_
      refine wq_iload_n (pc := 647) dL_law_647 rfl rfl ?_
      refine wq_iconst (pc := 648) dL_law_648 rfl ?_
      refine wq_iadd (pc := 649) dL_law_649 ?_
      refine wq_re (x := (wr (x3 + 3))) (y := (x3 + 3)) (Eq.trans (wr_eq (by omega) (by omega)) (by omega)) ?_
      refine wq_sld (pc := 650) dL_law_650 s46.1 s46.2 ?_
      refine wq_callV (d' := 5) (pc := 651) (as := [vI (gI M 1000 (x3 + 1)), vI (gI M 1000 (x3 + 2)), vI (gI M 1000 (x3 + 3))]) (rest := []) (lo' := [iR 0, iI (gI M 1000 (x3 + 1)), iI (gI M 1000 (x3 + 2)), iI (gI M 1000 (x3 + 3))]) dL_law_651 mO_D_plan lV_L_69 sh_0 (by decide) cl_10 rfl rfl rfl rfl rfl rfl ?_
      exact H
    by_cases c47 : bAnd (gI M 1000 x3) 63 = 14
    · refine wq_tabIn (pc := 33) (tgt := 678) dL_law_33 (by rw [c47]; decide) (by rw [c47]; decide) (by rw [c47]; rfl) (by decide) ?_
      have H := H.2.2.2.2.2.2.2.2.2.2.2.2.2.2.1 c47
      obtain ⟨s48, H⟩ := H
      refine wq_aload_n (pc := 678) dL_law_678 rfl rfl ?_
      refine wq_aload_n (pc := 679) dL_law_679 rfl rfl ?_
      refine wq_iload_n (pc := 680) dL_law_680 rfl rfl ?_
      refine wq_iconst (pc := 681) dL_law_681 rfl ?_
      refine wq_iadd (pc := 682) dL_law_682 ?_
      refine wq_re (x := (wr (x3 + 1))) (y := (x3 + 1)) (Eq.trans (wr_eq (by omega) (by omega)) (by omega)) ?_
      refine wq_sld (pc := 683) dL_law_683 s48.1 s48.2 ?_
      refine wq_callV (d' := 5) (pc := 684) (as := [vI (gI M 1000 (x3 + 1))]) (rest := []) (lo' := [iR 0, iI (gI M 1000 (x3 + 1))]) dL_law_684 mO_D_end lV_L_73 sh_0 (by decide) cl_10 rfl rfl rfl rfl rfl rfl ?_
      exact H
    by_cases c49 : bAnd (gI M 1000 x3) 63 = 15
    · refine wq_tabIn (pc := 33) (tgt := 701) dL_law_33 (by rw [c49]; decide) (by rw [c49]; decide) (by rw [c49]; rfl) (by decide) ?_
      have H := H.2.2.2.2.2.2.2.2.2.2.2.2.2.2.2.1 c49
      obtain ⟨⟨s50, s51⟩, H⟩ := H
      refine wq_aload_n (pc := 701) dL_law_701 rfl rfl ?_
      refine wq_aload_n (pc := 702) dL_law_702 rfl rfl ?_
      refine wq_iload_n (pc := 703) dL_law_703 rfl rfl ?_
      refine wq_iconst (pc := 704) dL_law_704 rfl ?_
      refine wq_iadd (pc := 705) dL_law_705 ?_
      refine wq_re (x := (wr (x3 + 1))) (y := (x3 + 1)) (Eq.trans (wr_eq (by omega) (by omega)) (by omega)) ?_
      refine wq_sld (pc := 706) dL_law_706 s50.1 s50.2 ?_
      refine wq_aload_n (pc := 707) dL_law_707 rfl rfl ?_
      refine wq_iload_n (pc := 708) dL_law_708 rfl rfl ?_
      refine wq_iconst (pc := 709) dL_law_709 rfl ?_
      refine wq_iadd (pc := 710) dL_law_710 ?_
      refine wq_re (x := (wr (x3 + 2))) (y := (x3 + 2)) (Eq.trans (wr_eq (by omega) (by omega)) (by omega)) ?_
      refine wq_sld (pc := 711) dL_law_711 s51.1 s51.2 ?_
      refine wq_callV (d' := 5) (pc := 712) (as := [vI (gI M 1000 (x3 + 1)), vI (gI M 1000 (x3 + 2))]) (rest := []) (lo' := [iR 0, iI (gI M 1000 (x3 + 1)), iI (gI M 1000 (x3 + 2)), none, none]) dL_law_712 mO_D_chain lV_L_77 sh_0 (by decide) cl_10 rfl rfl rfl rfl rfl rfl ?_
      exact H
    by_cases c52 : bAnd (gI M 1000 x3) 63 = 16
    · refine wq_tabIn (pc := 33) (tgt := 734) dL_law_33 (by rw [c52]; decide) (by rw [c52]; decide) (by rw [c52]; rfl) (by decide) ?_
      have H := H.2.2.2.2.2.2.2.2.2.2.2.2.2.2.2.2.1 c52
      obtain ⟨⟨s53, s54⟩, H⟩ := H
      refine wq_aload_n (pc := 734) dL_law_734 rfl rfl ?_
      refine wq_aload_n (pc := 735) dL_law_735 rfl rfl ?_
      refine wq_iload_n (pc := 736) dL_law_736 rfl rfl ?_
      refine wq_iconst (pc := 737) dL_law_737 rfl ?_
      refine wq_iadd (pc := 738) dL_law_738 ?_
      refine wq_re (x := (wr (x3 + 1))) (y := (x3 + 1)) (Eq.trans (wr_eq (by omega) (by omega)) (by omega)) ?_
      refine wq_sld (pc := 739) dL_law_739 s53.1 s53.2 ?_
      refine wq_aload_n (pc := 740) dL_law_740 rfl rfl ?_
      refine wq_iload_n (pc := 741) dL_law_741 rfl rfl ?_
      refine wq_iconst (pc := 742) dL_law_742 rfl ?_
      refine wq_iadd (pc := 743) dL_law_743 ?_
      refine wq_re (x := (wr (x3 + 2))) (y := (x3 + 2)) (Eq.trans (wr_eq (by omega) (by omega)) (by omega)) ?_
      refine wq_sld (pc := 744) dL_law_744 s54.1 s54.2 ?_
      refine wq_callV (d' := 7) (pc := 745) (as := [vI (gI M 1000 (x3 + 1)), vI (gI M 1000 (x3 + 2))]) (rest := []) (lo' := [iR 0, iI (gI M 1000 (x3 + 1)), iI (gI M 1000 (x3 + 2)), none]) dL_law_745 mO_D_one lV_L_81 sh_0 (by decide) cl_10 rfl rfl rfl rfl rfl rfl ?_
      exact H
    by_cases c55 : bAnd (gI M 1000 x3) 63 = 17
    · refine wq_tabIn (pc := 33) (tgt := 767) dL_law_33 (by rw [c55]; decide) (by rw [c55]; decide) (by rw [c55]; rfl) (by decide) ?_
      have H := H.2.2.2.2.2.2.2.2.2.2.2.2.2.2.2.2.2.1 c55
      obtain ⟨⟨s56, s57⟩, H⟩ := H
      refine wq_aload_n (pc := 767) dL_law_767 rfl rfl ?_
      refine wq_aload_n (pc := 768) dL_law_768 rfl rfl ?_
      refine wq_iload_n (pc := 769) dL_law_769 rfl rfl ?_
      refine wq_iconst (pc := 770) dL_law_770 rfl ?_
      refine wq_iadd (pc := 771) dL_law_771 ?_
      refine wq_re (x := (wr (x3 + 1))) (y := (x3 + 1)) (Eq.trans (wr_eq (by omega) (by omega)) (by omega)) ?_
      refine wq_sld (pc := 772) dL_law_772 s56.1 s56.2 ?_
      refine wq_aload_n (pc := 773) dL_law_773 rfl rfl ?_
      refine wq_iload_n (pc := 774) dL_law_774 rfl rfl ?_
      refine wq_iconst (pc := 775) dL_law_775 rfl ?_
      refine wq_iadd (pc := 776) dL_law_776 ?_
      refine wq_re (x := (wr (x3 + 2))) (y := (x3 + 2)) (Eq.trans (wr_eq (by omega) (by omega)) (by omega)) ?_
      refine wq_sld (pc := 777) dL_law_777 s57.1 s57.2 ?_
      refine wq_callV (d' := 6) (pc := 778) (as := [vI (gI M 1000 (x3 + 1)), vI (gI M 1000 (x3 + 2))]) (rest := []) (lo' := [iR 0, iI (gI M 1000 (x3 + 1)), iI (gI M 1000 (x3 + 2)), none]) dL_law_778 mO_D_without lV_L_85 sh_0 (by decide) cl_10 rfl rfl rfl rfl rfl rfl ?_
      exact H
    by_cases c58 : bAnd (gI M 1000 x3) 63 = 18
    · refine wq_tabIn (pc := 33) (tgt := 800) dL_law_33 (by rw [c58]; decide) (by rw [c58]; decide) (by rw [c58]; rfl) (by decide) ?_
      have H := H.2.2.2.2.2.2.2.2.2.2.2.2.2.2.2.2.2.2.1 c58
      obtain ⟨⟨s59, s60⟩, H⟩ := H
      refine wq_aload_n (pc := 800) dL_law_800 rfl rfl ?_
      refine wq_aload_n (pc := 801) dL_law_801 rfl rfl ?_
      refine wq_iload_n (pc := 802) dL_law_802 rfl rfl ?_
      refine wq_iconst (pc := 803) dL_law_803 rfl ?_
      refine wq_iadd (pc := 804) dL_law_804 ?_
      refine wq_re (x := (wr (x3 + 1))) (y := (x3 + 1)) (Eq.trans (wr_eq (by omega) (by omega)) (by omega)) ?_
      refine wq_sld (pc := 805) dL_law_805 s59.1 s59.2 ?_
      refine wq_aload_n (pc := 806) dL_law_806 rfl rfl ?_
      refine wq_iload_n (pc := 807) dL_law_807 rfl rfl ?_
      refine wq_iconst (pc := 808) dL_law_808 rfl ?_
      refine wq_iadd (pc := 809) dL_law_809 ?_
      refine wq_re (x := (wr (x3 + 2))) (y := (x3 + 2)) (Eq.trans (wr_eq (by omega) (by omega)) (by omega)) ?_
      refine wq_sld (pc := 810) dL_law_810 s60.1 s60.2 ?_
      refine wq_callV (d' := 6) (pc := 811) (as := [vI (gI M 1000 (x3 + 1)), vI (gI M 1000 (x3 + 2))]) (rest := []) (lo' := [iR 0, iI (gI M 1000 (x3 + 1)), iI (gI M 1000 (x3 + 2)), none]) dL_law_811 mO_D_butFor lV_L_89 sh_0 (by decide) cl_10 rfl rfl rfl rfl rfl rfl ?_
      exact H
    by_cases c61 : bAnd (gI M 1000 x3) 63 = 19
    · refine wq_tabIn (pc := 33) (tgt := 833) dL_law_33 (by rw [c61]; decide) (by rw [c61]; decide) (by rw [c61]; rfl) (by decide) ?_
      have H := H.2.2.2.2.2.2.2.2.2.2.2.2.2.2.2.2.2.2.2.1 c61
      obtain ⟨⟨s62, s63, s64, s65⟩, H⟩ := H
      refine wq_aload_n (pc := 833) dL_law_833 rfl rfl ?_
      refine wq_aload_n (pc := 834) dL_law_834 rfl rfl ?_
      refine wq_iload_n (pc := 835) dL_law_835 rfl rfl ?_
      refine wq_iconst (pc := 836) dL_law_836 rfl ?_
      refine wq_iadd (pc := 837) dL_law_837 ?_
      refine wq_re (x := (wr (x3 + 1))) (y := (x3 + 1)) (Eq.trans (wr_eq (by omega) (by omega)) (by omega)) ?_
      refine wq_sld (pc := 838) dL_law_838 s62.1 s62.2 ?_
      refine wq_aload_n (pc := 839) dL_law_839 rfl rfl ?_
      refine wq_iload_n (pc := 840) dL_law_840 rfl rfl ?_
      refine wq_iconst (pc := 841) dL_law_841 rfl ?_
      refine wq_iadd (pc := 842) dL_law_842 ?_
      refine wq_re (x := (wr (x3 + 2))) (y := (x3 + 2)) (Eq.trans (wr_eq (by omega) (by omega)) (by omega)) ?_
      refine wq_sld (pc := 843) dL_law_843 s63.1 s63.2 ?_
      refine wq_aload_n (pc := 844) dL_law_844 rfl rfl ?_
      refine wq_iload_n (pc := 845) dL_law_845 rfl rfl ?_
      refine wq_iconst (pc := 846) dL_law_846 rfl ?_
      refine wq_iadd (pc := 847) dL_law_847 ?_
      refine wq_re (x := (wr (x3 + 3))) (y := (x3 + 3)) (Eq.trans (wr_eq (by omega) (by omega)) (by omega)) ?_
      refine wq_sld (pc := 848) dL_law_848 s64.1 s64.2 ?_
      refine wq_aload_n (pc := 849) dL_law_849 rfl rfl ?_
      refine wq_iload_n (pc := 850) dL_law_850 rfl rfl ?_
      refine wq_iconst (pc := 851) dL_law_851 rfl ?_
      refine wq_iadd (pc := 852) dL_law_852 ?_
      refine wq_re (x := (wr (x3 + 4))) (y := (x3 + 4)) (Eq.trans (wr_eq (by omega) (by omega)) (by omega)) ?_
      refine wq_sld (pc := 853) dL_law_853 s65.1 s65.2 ?_
      refine wq_callV (d' := 6) (pc := 854) (as := [vI (gI M 1000 (x3 + 1)), vI (gI M 1000 (x3 + 2)), vI (gI M 1000 (x3 + 3)), vI (gI M 1000 (x3 + 4))]) (rest := []) (lo' := [iR 0, iI (gI M 1000 (x3 + 1)), iI (gI M 1000 (x3 + 2)), iI (gI M 1000 (x3 + 3)), iI (gI M 1000 (x3 + 4)), none, none, none, none, none]) dL_law_854 mO_D_window lV_L_93 sh_0 (by decide) cl_10 rfl rfl rfl rfl rfl rfl ?_
      exact H
    by_cases c66 : bAnd (gI M 1000 x3) 63 = 20
    · refine wq_tabIn (pc := 33) (tgt := 886) dL_law_33 (by rw [c66]; decide) (by rw [c66]; decide) (by rw [c66]; rfl) (by decide) ?_
      have H := H.2.2.2.2.2.2.2.2.2.2.2.2.2.2.2.2.2.2.2.2.1 c66
      obtain ⟨⟨s67, s68, s69⟩, H⟩ := H
      refine wq_aload_n (pc := 886) dL_law_886 rfl rfl ?_
      refine wq_aload_n (pc := 887) dL_law_887 rfl rfl ?_
      refine wq_iload_n (pc := 888) dL_law_888 rfl rfl ?_
      refine wq_iconst (pc := 889) dL_law_889 rfl ?_
      refine wq_iadd (pc := 890) dL_law_890 ?_
      refine wq_re (x := (wr (x3 + 1))) (y := (x3 + 1)) (Eq.trans (wr_eq (by omega) (by omega)) (by omega)) ?_
      refine wq_sld (pc := 891) dL_law_891 s67.1 s67.2 ?_
      refine wq_i2l (pc := 892) dL_law_892 ?_
      refine wq_bipush (pc := 893) dL_law_893 rfl ?_
      refine wq_lshl (pc := 895) dL_law_895 ?_
      refine wq_aload_n (pc := 896) dL_law_896 rfl rfl ?_
      refine wq_iload_n (pc := 897) dL_law_897 rfl rfl ?_
      refine wq_iconst (pc := 898) dL_law_898 rfl ?_
      refine wq_iadd (pc := 899) dL_law_899 ?_
      refine wq_re (x := (wr (x3 + 2))) (y := (x3 + 2)) (Eq.trans (wr_eq (by omega) (by omega)) (by omega)) ?_
      refine wq_sld (pc := 900) dL_law_900 s68.1 s68.2 ?_
      refine wq_i2l (pc := 901) dL_law_901 ?_
      refine wq_ldc2 (pc := 902) (z := 4294967295) dL_law_902 kO_L_98 (by decide) ?_
      refine wq_land (pc := 905) dL_law_905 ?_
      refine wq_lor (pc := 906) dL_law_906 ?_
      refine wq_aload_n (pc := 907) dL_law_907 rfl rfl ?_
      refine wq_iload_n (pc := 908) dL_law_908 rfl rfl ?_
      refine wq_iconst (pc := 909) dL_law_909 rfl ?_
      refine wq_iadd (pc := 910) dL_law_910 ?_
      refine wq_re (x := (wr (x3 + 3))) (y := (x3 + 3)) (Eq.trans (wr_eq (by omega) (by omega)) (by omega)) ?_
      refine wq_sld (pc := 911) dL_law_911 s69.1 s69.2 ?_
      refine wq_callV (d' := 3) (pc := 912) (as := [vL (lOr (lShl (gI M 1000 (x3 + 1)) 32) (lAnd (gI M 1000 (x3 + 2)) 4294967295)), vI (gI M 1000 (x3 + 3))]) (rest := []) (lo' := [iR 0, iL (lOr (lShl (gI M 1000 (x3 + 1)) 32) (lAnd (gI M 1000 (x3 + 2)) 4294967295)), none, iI (gI M 1000 (x3 + 3))]) dL_law_912 mO_D_feed lV_L_100 sh_0 (by decide) cl_10 rfl rfl rfl rfl rfl rfl ?_
      exact H
    by_cases c70 : bAnd (gI M 1000 x3) 63 = 21
    · refine wq_tabIn (pc := 33) (tgt := 949) dL_law_33 (by rw [c70]; decide) (by rw [c70]; decide) (by rw [c70]; rfl) (by decide) ?_
      have H := H.2.2.2.2.2.2.2.2.2.2.2.2.2.2.2.2.2.2.2.2.2.1 c70
      obtain ⟨⟨s71, s72⟩, H⟩ := H
      refine wq_aload_n (pc := 949) dL_law_949 rfl rfl ?_
      refine wq_aload_n (pc := 950) dL_law_950 rfl rfl ?_
      refine wq_iload_n (pc := 951) dL_law_951 rfl rfl ?_
      refine wq_iconst (pc := 952) dL_law_952 rfl ?_
      refine wq_iadd (pc := 953) dL_law_953 ?_
      refine wq_re (x := (wr (x3 + 1))) (y := (x3 + 1)) (Eq.trans (wr_eq (by omega) (by omega)) (by omega)) ?_
      refine wq_sld (pc := 954) dL_law_954 s71.1 s71.2 ?_
      refine wq_aload_n (pc := 955) dL_law_955 rfl rfl ?_
      refine wq_iload_n (pc := 956) dL_law_956 rfl rfl ?_
      refine wq_iconst (pc := 957) dL_law_957 rfl ?_
      refine wq_iadd (pc := 958) dL_law_958 ?_
      refine wq_re (x := (wr (x3 + 2))) (y := (x3 + 2)) (Eq.trans (wr_eq (by omega) (by omega)) (by omega)) ?_
      refine wq_sld (pc := 959) dL_law_959 s72.1 s72.2 ?_
      refine wq_callV (d' := 52) (pc := 960) (as := [vI (gI M 1000 (x3 + 1)), vI (gI M 1000 (x3 + 2))]) (rest := []) (lo' := [iR 0, iI (gI M 1000 (x3 + 1)), iI (gI M 1000 (x3 + 2)), none, none]) dL_law_960 mO_D_clause lV_L_105 sh_0 (by decide) cl_10 rfl rfl rfl rfl rfl rfl ?_
      exact H
    by_cases c73 : bAnd (gI M 1000 x3) 63 = 22
    · refine wq_tabIn (pc := 33) (tgt := 982) dL_law_33 (by rw [c73]; decide) (by rw [c73]; decide) (by rw [c73]; rfl) (by decide) ?_
      have H := H.2.2.2.2.2.2.2.2.2.2.2.2.2.2.2.2.2.2.2.2.2.2.1 c73
      obtain ⟨⟨s74, s75⟩, H⟩ := H
      refine wq_aload_n (pc := 982) dL_law_982 rfl rfl ?_
      refine wq_aload_n (pc := 983) dL_law_983 rfl rfl ?_
      refine wq_iload_n (pc := 984) dL_law_984 rfl rfl ?_
      refine wq_iconst (pc := 985) dL_law_985 rfl ?_
      refine wq_iadd (pc := 986) dL_law_986 ?_
      refine wq_re (x := (wr (x3 + 1))) (y := (x3 + 1)) (Eq.trans (wr_eq (by omega) (by omega)) (by omega)) ?_
      refine wq_sld (pc := 987) dL_law_987 s74.1 s74.2 ?_
      refine wq_aload_n (pc := 988) dL_law_988 rfl rfl ?_
      refine wq_iload_n (pc := 989) dL_law_989 rfl rfl ?_
      refine wq_iconst (pc := 990) dL_law_990 rfl ?_
      refine wq_iadd (pc := 991) dL_law_991 ?_
      refine wq_re (x := (wr (x3 + 2))) (y := (x3 + 2)) (Eq.trans (wr_eq (by omega) (by omega)) (by omega)) ?_
      refine wq_sld (pc := 992) dL_law_992 s75.1 s75.2 ?_
      refine wq_callV (d' := 54) (pc := 993) (as := [vI (gI M 1000 (x3 + 1)), vI (gI M 1000 (x3 + 2))]) (rest := []) (lo' := [iR 0, iI (gI M 1000 (x3 + 1)), iI (gI M 1000 (x3 + 2))]) dL_law_993 mO_D_says lV_L_109 sh_0 (by decide) cl_10 rfl rfl rfl rfl rfl rfl ?_
      exact H
    by_cases c76 : bAnd (gI M 1000 x3) 63 = 23
    · refine wq_tabIn (pc := 33) (tgt := 1015) dL_law_33 (by rw [c76]; decide) (by rw [c76]; decide) (by rw [c76]; rfl) (by decide) ?_
      have H := H.2.2.2.2.2.2.2.2.2.2.2.2.2.2.2.2.2.2.2.2.2.2.2.1 c76
      obtain ⟨⟨s77, s78⟩, H⟩ := H
      refine wq_aload_n (pc := 1015) dL_law_1015 rfl rfl ?_
      refine wq_aload_n (pc := 1016) dL_law_1016 rfl rfl ?_
      refine wq_iload_n (pc := 1017) dL_law_1017 rfl rfl ?_
      refine wq_iconst (pc := 1018) dL_law_1018 rfl ?_
      refine wq_iadd (pc := 1019) dL_law_1019 ?_
      refine wq_re (x := (wr (x3 + 1))) (y := (x3 + 1)) (Eq.trans (wr_eq (by omega) (by omega)) (by omega)) ?_
      refine wq_sld (pc := 1020) dL_law_1020 s77.1 s77.2 ?_
      refine wq_aload_n (pc := 1021) dL_law_1021 rfl rfl ?_
      refine wq_iload_n (pc := 1022) dL_law_1022 rfl rfl ?_
      refine wq_iconst (pc := 1023) dL_law_1023 rfl ?_
      refine wq_iadd (pc := 1024) dL_law_1024 ?_
      refine wq_re (x := (wr (x3 + 2))) (y := (x3 + 2)) (Eq.trans (wr_eq (by omega) (by omega)) (by omega)) ?_
      refine wq_sld (pc := 1025) dL_law_1025 s78.1 s78.2 ?_
      refine wq_callV (d' := 3) (pc := 1026) (as := [vI (gI M 1000 (x3 + 1)), vI (gI M 1000 (x3 + 2))]) (rest := []) (lo' := [iR 0, iI (gI M 1000 (x3 + 1)), iI (gI M 1000 (x3 + 2)), none]) dL_law_1026 mO_D_force lV_L_113 sh_0 (by decide) cl_10 rfl rfl rfl rfl rfl rfl ?_
      exact H
    by_cases c79 : bAnd (gI M 1000 x3) 63 = 24
    · refine wq_tabIn (pc := 33) (tgt := 1048) dL_law_33 (by rw [c79]; decide) (by rw [c79]; decide) (by rw [c79]; rfl) (by decide) ?_
      have H := H.2.2.2.2.2.2.2.2.2.2.2.2.2.2.2.2.2.2.2.2.2.2.2.2.1 c79
      obtain ⟨s80, H⟩ := H
      refine wq_aload_n (pc := 1048) dL_law_1048 rfl rfl ?_
      refine wq_aload_n (pc := 1049) dL_law_1049 rfl rfl ?_
      refine wq_iload_n (pc := 1050) dL_law_1050 rfl rfl ?_
      refine wq_iconst (pc := 1051) dL_law_1051 rfl ?_
      refine wq_iadd (pc := 1052) dL_law_1052 ?_
      refine wq_re (x := (wr (x3 + 1))) (y := (x3 + 1)) (Eq.trans (wr_eq (by omega) (by omega)) (by omega)) ?_
      refine wq_sld (pc := 1053) dL_law_1053 s80.1 s80.2 ?_
      refine wq_callV (d' := 55) (pc := 1054) (as := [vI (gI M 1000 (x3 + 1))]) (rest := []) (lo' := [iR 0, iI (gI M 1000 (x3 + 1))]) dL_law_1054 mO_D_claim lV_L_117 sh_0 (by decide) cl_10 rfl rfl rfl rfl rfl rfl ?_
      exact H
    by_cases c81 : bAnd (gI M 1000 x3) 63 = 25
    · refine wq_tabIn (pc := 33) (tgt := 1071) dL_law_33 (by rw [c81]; decide) (by rw [c81]; decide) (by rw [c81]; rfl) (by decide) ?_
      have H := H.2.2.2.2.2.2.2.2.2.2.2.2.2.2.2.2.2.2.2.2.2.2.2.2.2.1 c81
      obtain ⟨⟨s82, s83, s84⟩, H⟩ := H
      refine wq_aload_n (pc := 1071) dL_law_1071 rfl rfl ?_
      refine wq_aload_n (pc := 1072) dL_law_1072 rfl rfl ?_
      refine wq_iload_n (pc := 1073) dL_law_1073 rfl rfl ?_
      refine wq_iconst (pc := 1074) dL_law_1074 rfl ?_
      refine wq_iadd (pc := 1075) dL_law_1075 ?_
      refine wq_re (x := (wr (x3 + 1))) (y := (x3 + 1)) (Eq.trans (wr_eq (by omega) (by omega)) (by omega)) ?_
      refine wq_sld (pc := 1076) dL_law_1076 s82.1 s82.2 ?_
      refine wq_aload_n (pc := 1077) dL_law_1077 rfl rfl ?_
      refine wq_iload_n (pc := 1078) dL_law_1078 rfl rfl ?_
      refine wq_iconst (pc := 1079) dL_law_1079 rfl ?_
      refine wq_iadd (pc := 1080) dL_law_1080 ?_
      refine wq_re (x := (wr (x3 + 2))) (y := (x3 + 2)) (Eq.trans (wr_eq (by omega) (by omega)) (by omega)) ?_
      refine wq_sld (pc := 1081) dL_law_1081 s83.1 s83.2 ?_
      refine wq_aload_n (pc := 1082) dL_law_1082 rfl rfl ?_
      refine wq_iload_n (pc := 1083) dL_law_1083 rfl rfl ?_
      refine wq_iconst (pc := 1084) dL_law_1084 rfl ?_
      refine wq_iadd (pc := 1085) dL_law_1085 ?_
      refine wq_re (x := (wr (x3 + 3))) (y := (x3 + 3)) (Eq.trans (wr_eq (by omega) (by omega)) (by omega)) ?_
      refine wq_sld (pc := 1086) dL_law_1086 s84.1 s84.2 ?_
      refine wq_callV (d' := 3) (pc := 1087) (as := [vI (gI M 1000 (x3 + 1)), vI (gI M 1000 (x3 + 2)), vI (gI M 1000 (x3 + 3))]) (rest := []) (lo' := [iR 0, iI (gI M 1000 (x3 + 1)), iI (gI M 1000 (x3 + 2)), iI (gI M 1000 (x3 + 3)), none]) dL_law_1087 mO_D_hurry lV_L_121 sh_0 (by decide) cl_10 rfl rfl rfl rfl rfl rfl ?_
      exact H
    by_cases c85 : bAnd (gI M 1000 x3) 63 = 26
    · refine wq_tabIn (pc := 33) (tgt := 1114) dL_law_33 (by rw [c85]; decide) (by rw [c85]; decide) (by rw [c85]; rfl) (by decide) ?_
      have H := H.2.2.2.2.2.2.2.2.2.2.2.2.2.2.2.2.2.2.2.2.2.2.2.2.2.2.1 c85
      refine wq_aload_n (pc := 1114) dL_law_1114 rfl rfl ?_
      refine wq_callV (d' := 1) (pc := 1115) (as := []) (rest := []) (lo' := [iR 0, none]) dL_law_1115 mO_D_calm lV_L_125 sh_0 (by decide) cl_10 rfl rfl rfl rfl rfl rfl ?_
      exact H
    by_cases c86 : bAnd (gI M 1000 x3) 63 = 27
    · refine wq_tabIn (pc := 33) (tgt := 1127) dL_law_33 (by rw [c86]; decide) (by rw [c86]; decide) (by rw [c86]; rfl) (by decide) ?_
      have H := H.2.2.2.2.2.2.2.2.2.2.2.2.2.2.2.2.2.2.2.2.2.2.2.2.2.2.2.1 c86
      obtain ⟨⟨s87, s88⟩, H⟩ := H
      refine wq_aload_n (pc := 1127) dL_law_1127 rfl rfl ?_
      refine wq_aload_n (pc := 1128) dL_law_1128 rfl rfl ?_
      refine wq_iload_n (pc := 1129) dL_law_1129 rfl rfl ?_
      refine wq_iconst (pc := 1130) dL_law_1130 rfl ?_
      refine wq_iadd (pc := 1131) dL_law_1131 ?_
      refine wq_re (x := (wr (x3 + 1))) (y := (x3 + 1)) (Eq.trans (wr_eq (by omega) (by omega)) (by omega)) ?_
      refine wq_sld (pc := 1132) dL_law_1132 s87.1 s87.2 ?_
      refine wq_aload_n (pc := 1133) dL_law_1133 rfl rfl ?_
      refine wq_iload_n (pc := 1134) dL_law_1134 rfl rfl ?_
      refine wq_iconst (pc := 1135) dL_law_1135 rfl ?_
      refine wq_iadd (pc := 1136) dL_law_1136 ?_
      refine wq_re (x := (wr (x3 + 2))) (y := (x3 + 2)) (Eq.trans (wr_eq (by omega) (by omega)) (by omega)) ?_
      refine wq_sld (pc := 1137) dL_law_1137 s88.1 s88.2 ?_
      refine wq_callV (d' := 6) (pc := 1138) (as := [vI (gI M 1000 (x3 + 1)), vI (gI M 1000 (x3 + 2))]) (rest := []) (lo' := [iR 0, iI (gI M 1000 (x3 + 1)), iI (gI M 1000 (x3 + 2)), none]) dL_law_1138 mO_D_least lV_L_130 sh_0 (by decide) cl_10 rfl rfl rfl rfl rfl rfl ?_
      exact H
    by_cases c89 : bAnd (gI M 1000 x3) 63 = 28
    · refine wq_tabIn (pc := 33) (tgt := 1160) dL_law_33 (by rw [c89]; decide) (by rw [c89]; decide) (by rw [c89]; rfl) (by decide) ?_
      have H := H.2.2.2.2.2.2.2.2.2.2.2.2.2.2.2.2.2.2.2.2.2.2.2.2.2.2.2.2.1 c89
      obtain ⟨⟨s90, s91, s92⟩, H⟩ := H
      refine wq_aload_n (pc := 1160) dL_law_1160 rfl rfl ?_
      refine wq_aload_n (pc := 1161) dL_law_1161 rfl rfl ?_
      refine wq_iload_n (pc := 1162) dL_law_1162 rfl rfl ?_
      refine wq_iconst (pc := 1163) dL_law_1163 rfl ?_
      refine wq_iadd (pc := 1164) dL_law_1164 ?_
      refine wq_re (x := (wr (x3 + 1))) (y := (x3 + 1)) (Eq.trans (wr_eq (by omega) (by omega)) (by omega)) ?_
      refine wq_sld (pc := 1165) dL_law_1165 s90.1 s90.2 ?_
      refine wq_aload_n (pc := 1166) dL_law_1166 rfl rfl ?_
      refine wq_iload_n (pc := 1167) dL_law_1167 rfl rfl ?_
      refine wq_iconst (pc := 1168) dL_law_1168 rfl ?_
      refine wq_iadd (pc := 1169) dL_law_1169 ?_
      refine wq_re (x := (wr (x3 + 2))) (y := (x3 + 2)) (Eq.trans (wr_eq (by omega) (by omega)) (by omega)) ?_
      refine wq_sld (pc := 1170) dL_law_1170 s91.1 s91.2 ?_
      refine wq_aload_n (pc := 1171) dL_law_1171 rfl rfl ?_
      refine wq_iload_n (pc := 1172) dL_law_1172 rfl rfl ?_
      refine wq_iconst (pc := 1173) dL_law_1173 rfl ?_
      refine wq_iadd (pc := 1174) dL_law_1174 ?_
      refine wq_re (x := (wr (x3 + 3))) (y := (x3 + 3)) (Eq.trans (wr_eq (by omega) (by omega)) (by omega)) ?_
      refine wq_sld (pc := 1175) dL_law_1175 s92.1 s92.2 ?_
      refine wq_callV (d' := 5) (pc := 1176) (as := [vI (gI M 1000 (x3 + 1)), vI (gI M 1000 (x3 + 2)), vI (gI M 1000 (x3 + 3))]) (rest := []) (lo' := [iR 0, iI (gI M 1000 (x3 + 1)), iI (gI M 1000 (x3 + 2)), iI (gI M 1000 (x3 + 3)), none, none]) dL_law_1176 mO_D_proves lV_L_134 sh_0 (by decide) cl_10 rfl rfl rfl rfl rfl rfl ?_
      exact H
    by_cases c93 : bAnd (gI M 1000 x3) 63 = 29
    · refine wq_tabIn (pc := 33) (tgt := 1203) dL_law_33 (by rw [c93]; decide) (by rw [c93]; decide) (by rw [c93]; rfl) (by decide) ?_
      have H := H.2.2.2.2.2.2.2.2.2.2.2.2.2.2.2.2.2.2.2.2.2.2.2.2.2.2.2.2.2.1 c93
      obtain ⟨⟨s94, s95, s96⟩, H⟩ := H
      refine wq_aload_n (pc := 1203) dL_law_1203 rfl rfl ?_
      refine wq_aload_n (pc := 1204) dL_law_1204 rfl rfl ?_
      refine wq_iload_n (pc := 1205) dL_law_1205 rfl rfl ?_
      refine wq_iconst (pc := 1206) dL_law_1206 rfl ?_
      refine wq_iadd (pc := 1207) dL_law_1207 ?_
      refine wq_re (x := (wr (x3 + 1))) (y := (x3 + 1)) (Eq.trans (wr_eq (by omega) (by omega)) (by omega)) ?_
      refine wq_sld (pc := 1208) dL_law_1208 s94.1 s94.2 ?_
      refine wq_aload_n (pc := 1209) dL_law_1209 rfl rfl ?_
      refine wq_iload_n (pc := 1210) dL_law_1210 rfl rfl ?_
      refine wq_iconst (pc := 1211) dL_law_1211 rfl ?_
      refine wq_iadd (pc := 1212) dL_law_1212 ?_
      refine wq_re (x := (wr (x3 + 2))) (y := (x3 + 2)) (Eq.trans (wr_eq (by omega) (by omega)) (by omega)) ?_
      refine wq_sld (pc := 1213) dL_law_1213 s95.1 s95.2 ?_
      refine wq_aload_n (pc := 1214) dL_law_1214 rfl rfl ?_
      refine wq_iload_n (pc := 1215) dL_law_1215 rfl rfl ?_
      refine wq_iconst (pc := 1216) dL_law_1216 rfl ?_
      refine wq_iadd (pc := 1217) dL_law_1217 ?_
      refine wq_re (x := (wr (x3 + 3))) (y := (x3 + 3)) (Eq.trans (wr_eq (by omega) (by omega)) (by omega)) ?_
      refine wq_sld (pc := 1218) dL_law_1218 s96.1 s96.2 ?_
      refine wq_callV (d' := 52) (pc := 1219) (as := [vI (gI M 1000 (x3 + 1)), vI (gI M 1000 (x3 + 2)), vI (gI M 1000 (x3 + 3))]) (rest := []) (lo' := [iR 0, iI (gI M 1000 (x3 + 1)), iI (gI M 1000 (x3 + 2)), iI (gI M 1000 (x3 + 3))]) dL_law_1219 mO_D_voice lV_L_138 sh_0 (by decide) cl_10 rfl rfl rfl rfl rfl rfl ?_
      exact H
    by_cases c97 : bAnd (gI M 1000 x3) 63 = 30
    · refine wq_tabIn (pc := 33) (tgt := 1246) dL_law_33 (by rw [c97]; decide) (by rw [c97]; decide) (by rw [c97]; rfl) (by decide) ?_
      have H := H.2.2.2.2.2.2.2.2.2.2.2.2.2.2.2.2.2.2.2.2.2.2.2.2.2.2.2.2.2.2.1 c97
      obtain ⟨s98, H⟩ := H
      refine wq_aload_n (pc := 1246) dL_law_1246 rfl rfl ?_
      refine wq_aload_n (pc := 1247) dL_law_1247 rfl rfl ?_
      refine wq_iload_n (pc := 1248) dL_law_1248 rfl rfl ?_
      refine wq_iconst (pc := 1249) dL_law_1249 rfl ?_
      refine wq_iadd (pc := 1250) dL_law_1250 ?_
      refine wq_re (x := (wr (x3 + 1))) (y := (x3 + 1)) (Eq.trans (wr_eq (by omega) (by omega)) (by omega)) ?_
      refine wq_sld (pc := 1251) dL_law_1251 s98.1 s98.2 ?_
      refine wq_callV (d' := 3) (pc := 1252) (as := [vI (gI M 1000 (x3 + 1))]) (rest := []) (lo' := [iR 0, iI (gI M 1000 (x3 + 1))]) dL_law_1252 mO_D_trace lV_L_142 sh_0 (by decide) cl_10 rfl rfl rfl rfl rfl rfl ?_
      exact H
    by_cases c99 : bAnd (gI M 1000 x3) 63 = 31
    · refine wq_tabIn (pc := 33) (tgt := 1269) dL_law_33 (by rw [c99]; decide) (by rw [c99]; decide) (by rw [c99]; rfl) (by decide) ?_
      have H := H.2.2.2.2.2.2.2.2.2.2.2.2.2.2.2.2.2.2.2.2.2.2.2.2.2.2.2.2.2.2.2.1 c99
      obtain ⟨⟨s100, s101, s102⟩, H⟩ := H
      refine wq_aload_n (pc := 1269) dL_law_1269 rfl rfl ?_
      refine wq_aload_n (pc := 1270) dL_law_1270 rfl rfl ?_
      refine wq_iload_n (pc := 1271) dL_law_1271 rfl rfl ?_
      refine wq_iconst (pc := 1272) dL_law_1272 rfl ?_
      refine wq_iadd (pc := 1273) dL_law_1273 ?_
      refine wq_re (x := (wr (x3 + 1))) (y := (x3 + 1)) (Eq.trans (wr_eq (by omega) (by omega)) (by omega)) ?_
      refine wq_sld (pc := 1274) dL_law_1274 s100.1 s100.2 ?_
      refine wq_aload_n (pc := 1275) dL_law_1275 rfl rfl ?_
      refine wq_iload_n (pc := 1276) dL_law_1276 rfl rfl ?_
      refine wq_iconst (pc := 1277) dL_law_1277 rfl ?_
      refine wq_iadd (pc := 1278) dL_law_1278 ?_
      refine wq_re (x := (wr (x3 + 2))) (y := (x3 + 2)) (Eq.trans (wr_eq (by omega) (by omega)) (by omega)) ?_
      refine wq_sld (pc := 1279) dL_law_1279 s101.1 s101.2 ?_
      refine wq_aload_n (pc := 1280) dL_law_1280 rfl rfl ?_
      refine wq_iload_n (pc := 1281) dL_law_1281 rfl rfl ?_
      refine wq_iconst (pc := 1282) dL_law_1282 rfl ?_
      refine wq_iadd (pc := 1283) dL_law_1283 ?_
      refine wq_re (x := (wr (x3 + 3))) (y := (x3 + 3)) (Eq.trans (wr_eq (by omega) (by omega)) (by omega)) ?_
      refine wq_sld (pc := 1284) dL_law_1284 s102.1 s102.2 ?_
      refine wq_callV (d' := 3) (pc := 1285) (as := [vI (gI M 1000 (x3 + 1)), vI (gI M 1000 (x3 + 2)), vI (gI M 1000 (x3 + 3))]) (rest := []) (lo' := [iR 0, iI (gI M 1000 (x3 + 1)), iI (gI M 1000 (x3 + 2)), iI (gI M 1000 (x3 + 3))]) dL_law_1285 mO_D_sheet lV_L_146 sh_0 (by decide) cl_10 rfl rfl rfl rfl rfl rfl ?_
      exact H
    by_cases c103 : bAnd (gI M 1000 x3) 63 = 32
    · refine wq_tabIn (pc := 33) (tgt := 1312) dL_law_33 (by rw [c103]; decide) (by rw [c103]; decide) (by rw [c103]; rfl) (by decide) ?_
      have H := H.2.2.2.2.2.2.2.2.2.2.2.2.2.2.2.2.2.2.2.2.2.2.2.2.2.2.2.2.2.2.2.2.1 c103
      obtain ⟨⟨s104, s105, s106⟩, H⟩ := H
      refine wq_aload_n (pc := 1312) dL_law_1312 rfl rfl ?_
      refine wq_aload_n (pc := 1313) dL_law_1313 rfl rfl ?_
      refine wq_iload_n (pc := 1314) dL_law_1314 rfl rfl ?_
      refine wq_iconst (pc := 1315) dL_law_1315 rfl ?_
      refine wq_iadd (pc := 1316) dL_law_1316 ?_
      refine wq_re (x := (wr (x3 + 1))) (y := (x3 + 1)) (Eq.trans (wr_eq (by omega) (by omega)) (by omega)) ?_
      refine wq_sld (pc := 1317) dL_law_1317 s104.1 s104.2 ?_
      refine wq_aload_n (pc := 1318) dL_law_1318 rfl rfl ?_
      refine wq_iload_n (pc := 1319) dL_law_1319 rfl rfl ?_
      refine wq_iconst (pc := 1320) dL_law_1320 rfl ?_
      refine wq_iadd (pc := 1321) dL_law_1321 ?_
      refine wq_re (x := (wr (x3 + 2))) (y := (x3 + 2)) (Eq.trans (wr_eq (by omega) (by omega)) (by omega)) ?_
      refine wq_sld (pc := 1322) dL_law_1322 s105.1 s105.2 ?_
      refine wq_aload_n (pc := 1323) dL_law_1323 rfl rfl ?_
      refine wq_iload_n (pc := 1324) dL_law_1324 rfl rfl ?_
      refine wq_iconst (pc := 1325) dL_law_1325 rfl ?_
      refine wq_iadd (pc := 1326) dL_law_1326 ?_
      refine wq_re (x := (wr (x3 + 3))) (y := (x3 + 3)) (Eq.trans (wr_eq (by omega) (by omega)) (by omega)) ?_
      refine wq_sld (pc := 1327) dL_law_1327 s106.1 s106.2 ?_
      refine wq_callV (d' := 3) (pc := 1328) (as := [vI (gI M 1000 (x3 + 1)), vI (gI M 1000 (x3 + 2)), vI (gI M 1000 (x3 + 3))]) (rest := []) (lo' := [iR 0, iI (gI M 1000 (x3 + 1)), iI (gI M 1000 (x3 + 2)), iI (gI M 1000 (x3 + 3)), none]) dL_law_1328 mO_D_put lV_L_150 sh_0 (by decide) cl_10 rfl rfl rfl rfl rfl rfl ?_
      exact H
    by_cases c107 : bAnd (gI M 1000 x3) 63 = 33
    · refine wq_tabIn (pc := 33) (tgt := 1355) dL_law_33 (by rw [c107]; decide) (by rw [c107]; decide) (by rw [c107]; rfl) (by decide) ?_
      have H := H.2.2.2.2.2.2.2.2.2.2.2.2.2.2.2.2.2.2.2.2.2.2.2.2.2.2.2.2.2.2.2.2.2.1 c107
      obtain ⟨⟨s108, s109, s110, s111, s112⟩, H⟩ := H
      refine wq_aload_n (pc := 1355) dL_law_1355 rfl rfl ?_
      refine wq_aload_n (pc := 1356) dL_law_1356 rfl rfl ?_
      refine wq_iload_n (pc := 1357) dL_law_1357 rfl rfl ?_
      refine wq_iconst (pc := 1358) dL_law_1358 rfl ?_
      refine wq_iadd (pc := 1359) dL_law_1359 ?_
      refine wq_re (x := (wr (x3 + 1))) (y := (x3 + 1)) (Eq.trans (wr_eq (by omega) (by omega)) (by omega)) ?_
      refine wq_sld (pc := 1360) dL_law_1360 s108.1 s108.2 ?_
      refine wq_aload_n (pc := 1361) dL_law_1361 rfl rfl ?_
      refine wq_iload_n (pc := 1362) dL_law_1362 rfl rfl ?_
      refine wq_iconst (pc := 1363) dL_law_1363 rfl ?_
      refine wq_iadd (pc := 1364) dL_law_1364 ?_
      refine wq_re (x := (wr (x3 + 2))) (y := (x3 + 2)) (Eq.trans (wr_eq (by omega) (by omega)) (by omega)) ?_
      refine wq_sld (pc := 1365) dL_law_1365 s109.1 s109.2 ?_
      refine wq_aload_n (pc := 1366) dL_law_1366 rfl rfl ?_
      refine wq_iload_n (pc := 1367) dL_law_1367 rfl rfl ?_
      refine wq_iconst (pc := 1368) dL_law_1368 rfl ?_
      refine wq_iadd (pc := 1369) dL_law_1369 ?_
      refine wq_re (x := (wr (x3 + 3))) (y := (x3 + 3)) (Eq.trans (wr_eq (by omega) (by omega)) (by omega)) ?_
      refine wq_sld (pc := 1370) dL_law_1370 s110.1 s110.2 ?_
      refine wq_aload_n (pc := 1371) dL_law_1371 rfl rfl ?_
      refine wq_iload_n (pc := 1372) dL_law_1372 rfl rfl ?_
      refine wq_iconst (pc := 1373) dL_law_1373 rfl ?_
      refine wq_iadd (pc := 1374) dL_law_1374 ?_
      refine wq_re (x := (wr (x3 + 4))) (y := (x3 + 4)) (Eq.trans (wr_eq (by omega) (by omega)) (by omega)) ?_
      refine wq_sld (pc := 1375) dL_law_1375 s111.1 s111.2 ?_
      refine wq_aload_n (pc := 1376) dL_law_1376 rfl rfl ?_
      refine wq_iload_n (pc := 1377) dL_law_1377 rfl rfl ?_
      refine wq_iconst (pc := 1378) dL_law_1378 rfl ?_
      refine wq_iadd (pc := 1379) dL_law_1379 ?_
      refine wq_re (x := (wr (x3 + 5))) (y := (x3 + 5)) (Eq.trans (wr_eq (by omega) (by omega)) (by omega)) ?_
      refine wq_sld (pc := 1380) dL_law_1380 s112.1 s112.2 ?_
      refine wq_callV (d' := 3) (pc := 1381) (as := [vI (gI M 1000 (x3 + 1)), vI (gI M 1000 (x3 + 2)), vI (gI M 1000 (x3 + 3)), vI (gI M 1000 (x3 + 4)), vI (gI M 1000 (x3 + 5))]) (rest := []) (lo' := [iR 0, iI (gI M 1000 (x3 + 1)), iI (gI M 1000 (x3 + 2)), iI (gI M 1000 (x3 + 3)), iI (gI M 1000 (x3 + 4)), iI (gI M 1000 (x3 + 5)), none, none]) dL_law_1381 mO_D_move lV_L_154 sh_0 (by decide) cl_10 rfl rfl rfl rfl rfl rfl ?_
      exact H
    by_cases c113 : bAnd (gI M 1000 x3) 63 = 34
    · refine wq_tabIn (pc := 33) (tgt := 1418) dL_law_33 (by rw [c113]; decide) (by rw [c113]; decide) (by rw [c113]; rfl) (by decide) ?_
      have H := H.2.2.2.2.2.2.2.2.2.2.2.2.2.2.2.2.2.2.2.2.2.2.2.2.2.2.2.2.2.2.2.2.2.2.1 c113
      refine wq_aload_n (pc := 1418) dL_law_1418 rfl rfl ?_
      refine wq_callV (d' := 3) (pc := 1419) (as := []) (rest := []) (lo' := [iR 0]) dL_law_1419 mO_D_image lV_L_159 sh_0 (by decide) cl_10 rfl rfl rfl rfl rfl rfl ?_
      exact H
    by_cases c114 : bAnd (gI M 1000 x3) 63 = 35
    · refine wq_tabIn (pc := 33) (tgt := 1431) dL_law_33 (by rw [c114]; decide) (by rw [c114]; decide) (by rw [c114]; rfl) (by decide) ?_
      have H := H.2.2.2.2.2.2.2.2.2.2.2.2.2.2.2.2.2.2.2.2.2.2.2.2.2.2.2.2.2.2.2.2.2.2.2.1 c114
      refine wq_aload_n (pc := 1431) dL_law_1431 rfl rfl ?_
      refine wq_callV (d' := 3) (pc := 1432) (as := []) (rest := []) (lo' := [iR 0]) dL_law_1432 mO_D_restore lV_L_163 sh_0 (by decide) cl_10 rfl rfl rfl rfl rfl rfl ?_
      exact H
    by_cases c115 : bAnd (gI M 1000 x3) 63 = 36
    · refine wq_tabIn (pc := 33) (tgt := 1444) dL_law_33 (by rw [c115]; decide) (by rw [c115]; decide) (by rw [c115]; rfl) (by decide) ?_
      have H := H.2.2.2.2.2.2.2.2.2.2.2.2.2.2.2.2.2.2.2.2.2.2.2.2.2.2.2.2.2.2.2.2.2.2.2.2.1 c115
      obtain ⟨s116, H⟩ := H
      refine wq_aload_n (pc := 1444) dL_law_1444 rfl rfl ?_
      refine wq_aload_n (pc := 1445) dL_law_1445 rfl rfl ?_
      refine wq_iload_n (pc := 1446) dL_law_1446 rfl rfl ?_
      refine wq_iconst (pc := 1447) dL_law_1447 rfl ?_
      refine wq_iadd (pc := 1448) dL_law_1448 ?_
      refine wq_re (x := (wr (x3 + 1))) (y := (x3 + 1)) (Eq.trans (wr_eq (by omega) (by omega)) (by omega)) ?_
      refine wq_sld (pc := 1449) dL_law_1449 s116.1 s116.2 ?_
      refine wq_callV (d' := 3) (pc := 1450) (as := [vI (gI M 1000 (x3 + 1))]) (rest := []) (lo' := [iR 0, iI (gI M 1000 (x3 + 1))]) dL_law_1450 mO_D_told lV_L_167 sh_0 (by decide) cl_10 rfl rfl rfl rfl rfl rfl ?_
      exact H
    by_cases c117 : bAnd (gI M 1000 x3) 63 = 37
    · refine wq_tabIn (pc := 33) (tgt := 1467) dL_law_33 (by rw [c117]; decide) (by rw [c117]; decide) (by rw [c117]; rfl) (by decide) ?_
      have H := H.2.2.2.2.2.2.2.2.2.2.2.2.2.2.2.2.2.2.2.2.2.2.2.2.2.2.2.2.2.2.2.2.2.2.2.2.2.1 c117
      obtain ⟨s118, H⟩ := H
      refine wq_aload_n (pc := 1467) dL_law_1467 rfl rfl ?_
      refine wq_aload_n (pc := 1468) dL_law_1468 rfl rfl ?_
      refine wq_iload_n (pc := 1469) dL_law_1469 rfl rfl ?_
      refine wq_iconst (pc := 1470) dL_law_1470 rfl ?_
      refine wq_iadd (pc := 1471) dL_law_1471 ?_
      refine wq_re (x := (wr (x3 + 1))) (y := (x3 + 1)) (Eq.trans (wr_eq (by omega) (by omega)) (by omega)) ?_
      refine wq_sld (pc := 1472) dL_law_1472 s118.1 s118.2 ?_
      refine wq_callV (d' := 3) (pc := 1473) (as := [vI (gI M 1000 (x3 + 1))]) (rest := []) (lo' := [iR 0, iI (gI M 1000 (x3 + 1))]) dL_law_1473 mO_D_found lV_L_171 sh_0 (by decide) cl_10 rfl rfl rfl rfl rfl rfl ?_
      exact H
    refine wq_tabOut (pc := 33) (tgt := 1490) dL_law_33 (by omega) (by decide) ?_
    have H := H.2.2.2.2.2.2.2.2.2.2.2.2.2.2.2.2.2.2.2.2.2.2.2.2.2.2.2.2.2.2.2.2.2.2.2.2.2.2 (by omega)
    obtain ⟨s120, H⟩ := H
    refine wq_iinc (pc := 1490) (lo' := [iR 1000, iR 0, iR 80, iI (x3 + 6)]) dL_law_1490 rfl rfl (by rw [show wr (x3 + 6) = x3 + 6 from (Eq.trans (wr_eq (by omega) (by omega)) (by omega))]; rfl) ?_
    refine wq_goto (pc := 1493) (tgt := 18) dL_law_1493 (by decide) ?_
    exact H

set_option maxRecDepth 20000 in
theorem B_L_law_214 {x3 y0 : Int} {M : Mm} {Q : Mm → Option Mv → Prop} (hX : gI M 1000 (-1) ≤ 384) (H : (((0 ≤ x3 + 1 ∧ x3 + 1 < gI M 1000 (-1)) ∧ (0 ≤ x3 + 2 ∧ x3 + 2 < gI M 1000 (-1))) ∧ Wq 2 0 0 mM_work 0 [iR 80, iI (gI M 1000 (x3 + 1)), iI (gI M 1000 (x3 + 2)), none] [] M (fun M' v => Wq 56 0 0 mL_law 228 [iR 1000, iR 0, iR 80, iI x3] (v.toList ++ [vI y0]) M' Q))) : Wq 56 0 0 mL_law 214 [iR 1000, iR 0, iR 80, iI x3] [vI y0] M Q := by
  obtain ⟨⟨s1, s2⟩, H⟩ := H
  refine wq_aload_n (pc := 214) dL_law_214 rfl rfl ?_
  refine wq_aload_n (pc := 215) dL_law_215 rfl rfl ?_
  refine wq_iload_n (pc := 216) dL_law_216 rfl rfl ?_
  refine wq_iconst (pc := 217) dL_law_217 rfl ?_
  refine wq_iadd (pc := 218) dL_law_218 ?_
  refine wq_re (x := (wr (x3 + 1))) (y := (x3 + 1)) (Eq.trans (wr_eq (by omega) (by omega)) (by omega)) ?_
  refine wq_sld (pc := 219) dL_law_219 s1.1 s1.2 ?_
  refine wq_aload_n (pc := 220) dL_law_220 rfl rfl ?_
  refine wq_iload_n (pc := 221) dL_law_221 rfl rfl ?_
  refine wq_iconst (pc := 222) dL_law_222 rfl ?_
  refine wq_iadd (pc := 223) dL_law_223 ?_
  refine wq_re (x := (wr (x3 + 2))) (y := (x3 + 2)) (Eq.trans (wr_eq (by omega) (by omega)) (by omega)) ?_
  refine wq_sld (pc := 224) dL_law_224 s2.1 s2.2 ?_
  refine wq_callV (d' := 2) (pc := 225) (as := [vI (gI M 1000 (x3 + 1)), vI (gI M 1000 (x3 + 2))]) (rest := [vI y0]) (lo' := [iR 80, iI (gI M 1000 (x3 + 1)), iI (gI M 1000 (x3 + 2)), none]) dL_law_225 mO_M_work lV_L_17 sh_80 (by decide) cl_11 rfl rfl rfl rfl rfl rfl ?_
  exact H

set_option maxRecDepth 20000 in
theorem B_L_law_228 {x3 y0 y1 : Int} {M : Mm} {Q : Mm → Option Mv → Prop} (hX : gI M 1000 (-1) ≤ 384) (H : ((y1 = y0 → ((-2147483648 ≤ x3 + 6 ∧ x3 + 6 < 2147483648) ∧ Wq 56 0 0 mL_law 18 [iR 1000, iR 0, iR 80, iI (x3 + 6)] [] M Q)) ∧ (¬ y1 = y0 → Q M (some (vI 0))))) : Wq 56 0 0 mL_law 228 [iR 1000, iR 0, iR 80, iI x3] [vI y0, vI y1] M Q := by
  refine wq_icmp_eq (pc := 228) (tgt := 1490) dL_law_228 (by decide) (fun c1 => ?_) (fun c1 => ?_)
  · have H := H.1 c1
    obtain ⟨s2, H⟩ := H
    refine wq_iinc (pc := 1490) (lo' := [iR 1000, iR 0, iR 80, iI (x3 + 6)]) dL_law_1490 rfl rfl (by rw [show wr (x3 + 6) = x3 + 6 from (Eq.trans (wr_eq (by omega) (by omega)) (by omega))]; rfl) ?_
    refine wq_goto (pc := 1493) (tgt := 18) dL_law_1493 (by decide) ?_
    exact H
  · have H := H.2 c1
    refine wq_iconst (pc := 231) dL_law_231 rfl ?_
    refine wq_ireturn (pc := 232) dL_law_232 (Or.inl rfl) ?_
    exact H

set_option maxRecDepth 20000 in
theorem B_L_law_247 {x3 y0 : Int} {M : Mm} {Q : Mm → Option Mv → Prop} (hX : gI M 1000 (-1) ≤ 384) (H : (((0 ≤ x3 + 1 ∧ x3 + 1 < gI M 1000 (-1)) ∧ (0 ≤ x3 + 2 ∧ x3 + 2 < gI M 1000 (-1))) ∧ Wq 3 0 0 mM_as 0 [iR 80, iI (gI M 1000 (x3 + 1)), iI (gI M 1000 (x3 + 2)), none] [] M (fun M' v => Wq 56 0 0 mL_law 261 [iR 1000, iR 0, iR 80, iI x3] (v.toList ++ [vI y0]) M' Q))) : Wq 56 0 0 mL_law 247 [iR 1000, iR 0, iR 80, iI x3] [vI y0] M Q := by
  obtain ⟨⟨s1, s2⟩, H⟩ := H
  refine wq_aload_n (pc := 247) dL_law_247 rfl rfl ?_
  refine wq_aload_n (pc := 248) dL_law_248 rfl rfl ?_
  refine wq_iload_n (pc := 249) dL_law_249 rfl rfl ?_
  refine wq_iconst (pc := 250) dL_law_250 rfl ?_
  refine wq_iadd (pc := 251) dL_law_251 ?_
  refine wq_re (x := (wr (x3 + 1))) (y := (x3 + 1)) (Eq.trans (wr_eq (by omega) (by omega)) (by omega)) ?_
  refine wq_sld (pc := 252) dL_law_252 s1.1 s1.2 ?_
  refine wq_aload_n (pc := 253) dL_law_253 rfl rfl ?_
  refine wq_iload_n (pc := 254) dL_law_254 rfl rfl ?_
  refine wq_iconst (pc := 255) dL_law_255 rfl ?_
  refine wq_iadd (pc := 256) dL_law_256 ?_
  refine wq_re (x := (wr (x3 + 2))) (y := (x3 + 2)) (Eq.trans (wr_eq (by omega) (by omega)) (by omega)) ?_
  refine wq_sld (pc := 257) dL_law_257 s2.1 s2.2 ?_
  refine wq_callV (d' := 3) (pc := 258) (as := [vI (gI M 1000 (x3 + 1)), vI (gI M 1000 (x3 + 2))]) (rest := [vI y0]) (lo' := [iR 80, iI (gI M 1000 (x3 + 1)), iI (gI M 1000 (x3 + 2)), none]) dL_law_258 mO_M_as lV_L_21 sh_80 (by decide) cl_11 rfl rfl rfl rfl rfl rfl ?_
  exact H

set_option maxRecDepth 20000 in
theorem B_L_law_261 {x3 y0 y1 : Int} {M : Mm} {Q : Mm → Option Mv → Prop} (hX : gI M 1000 (-1) ≤ 384) (H : ((y1 = y0 → ((-2147483648 ≤ x3 + 6 ∧ x3 + 6 < 2147483648) ∧ Wq 56 0 0 mL_law 18 [iR 1000, iR 0, iR 80, iI (x3 + 6)] [] M Q)) ∧ (¬ y1 = y0 → Q M (some (vI 0))))) : Wq 56 0 0 mL_law 261 [iR 1000, iR 0, iR 80, iI x3] [vI y0, vI y1] M Q := by
  refine wq_icmp_eq (pc := 261) (tgt := 1490) dL_law_261 (by decide) (fun c1 => ?_) (fun c1 => ?_)
  · have H := H.1 c1
    obtain ⟨s2, H⟩ := H
    refine wq_iinc (pc := 1490) (lo' := [iR 1000, iR 0, iR 80, iI (x3 + 6)]) dL_law_1490 rfl rfl (by rw [show wr (x3 + 6) = x3 + 6 from (Eq.trans (wr_eq (by omega) (by omega)) (by omega))]; rfl) ?_
    refine wq_goto (pc := 1493) (tgt := 18) dL_law_1493 (by decide) ?_
    exact H
  · have H := H.2 c1
    refine wq_iconst (pc := 264) dL_law_264 rfl ?_
    refine wq_ireturn (pc := 265) dL_law_265 (Or.inl rfl) ?_
    exact H

set_option maxRecDepth 20000 in
theorem B_L_law_280 {x3 y0 : Int} {M : Mm} {Q : Mm → Option Mv → Prop} (hX : gI M 1000 (-1) ≤ 384) (H : (((0 ≤ x3 + 1 ∧ x3 + 1 < gI M 1000 (-1)) ∧ (0 ≤ x3 + 2 ∧ x3 + 2 < gI M 1000 (-1))) ∧ Wq 3 0 0 mM_edit 0 [iR 80, iI (gI M 1000 (x3 + 1)), iI (gI M 1000 (x3 + 2)), none] [] M (fun M' v => Wq 56 0 0 mL_law 294 [iR 1000, iR 0, iR 80, iI x3] (v.toList ++ [vI y0]) M' Q))) : Wq 56 0 0 mL_law 280 [iR 1000, iR 0, iR 80, iI x3] [vI y0] M Q := by
  obtain ⟨⟨s1, s2⟩, H⟩ := H
  refine wq_aload_n (pc := 280) dL_law_280 rfl rfl ?_
  refine wq_aload_n (pc := 281) dL_law_281 rfl rfl ?_
  refine wq_iload_n (pc := 282) dL_law_282 rfl rfl ?_
  refine wq_iconst (pc := 283) dL_law_283 rfl ?_
  refine wq_iadd (pc := 284) dL_law_284 ?_
  refine wq_re (x := (wr (x3 + 1))) (y := (x3 + 1)) (Eq.trans (wr_eq (by omega) (by omega)) (by omega)) ?_
  refine wq_sld (pc := 285) dL_law_285 s1.1 s1.2 ?_
  refine wq_aload_n (pc := 286) dL_law_286 rfl rfl ?_
  refine wq_iload_n (pc := 287) dL_law_287 rfl rfl ?_
  refine wq_iconst (pc := 288) dL_law_288 rfl ?_
  refine wq_iadd (pc := 289) dL_law_289 ?_
  refine wq_re (x := (wr (x3 + 2))) (y := (x3 + 2)) (Eq.trans (wr_eq (by omega) (by omega)) (by omega)) ?_
  refine wq_sld (pc := 290) dL_law_290 s2.1 s2.2 ?_
  refine wq_callV (d' := 3) (pc := 291) (as := [vI (gI M 1000 (x3 + 1)), vI (gI M 1000 (x3 + 2))]) (rest := [vI y0]) (lo' := [iR 80, iI (gI M 1000 (x3 + 1)), iI (gI M 1000 (x3 + 2)), none]) dL_law_291 mO_M_edit lV_L_25 sh_80 (by decide) cl_11 rfl rfl rfl rfl rfl rfl ?_
  exact H

set_option maxRecDepth 20000 in
theorem B_L_law_294 {x3 y0 y1 : Int} {M : Mm} {Q : Mm → Option Mv → Prop} (hX : gI M 1000 (-1) ≤ 384) (H : ((y1 = y0 → ((-2147483648 ≤ x3 + 6 ∧ x3 + 6 < 2147483648) ∧ Wq 56 0 0 mL_law 18 [iR 1000, iR 0, iR 80, iI (x3 + 6)] [] M Q)) ∧ (¬ y1 = y0 → Q M (some (vI 0))))) : Wq 56 0 0 mL_law 294 [iR 1000, iR 0, iR 80, iI x3] [vI y0, vI y1] M Q := by
  refine wq_icmp_eq (pc := 294) (tgt := 1490) dL_law_294 (by decide) (fun c1 => ?_) (fun c1 => ?_)
  · have H := H.1 c1
    obtain ⟨s2, H⟩ := H
    refine wq_iinc (pc := 1490) (lo' := [iR 1000, iR 0, iR 80, iI (x3 + 6)]) dL_law_1490 rfl rfl (by rw [show wr (x3 + 6) = x3 + 6 from (Eq.trans (wr_eq (by omega) (by omega)) (by omega))]; rfl) ?_
    refine wq_goto (pc := 1493) (tgt := 18) dL_law_1493 (by decide) ?_
    exact H
  · have H := H.2 c1
    refine wq_iconst (pc := 297) dL_law_297 rfl ?_
    refine wq_ireturn (pc := 298) dL_law_298 (Or.inl rfl) ?_
    exact H

set_option maxRecDepth 20000 in
theorem B_L_law_318 {x3 y0 : Int} {M : Mm} {Q : Mm → Option Mv → Prop} (hX : gI M 1000 (-1) ≤ 384) (H : (((0 ≤ x3 + 1 ∧ x3 + 1 < gI M 1000 (-1)) ∧ (0 ≤ x3 + 2 ∧ x3 + 2 < gI M 1000 (-1)) ∧ (0 ≤ x3 + 3 ∧ x3 + 3 < gI M 1000 (-1))) ∧ Wq 3 0 0 mM_link 0 [iR 80, iI (gI M 1000 (x3 + 1)), iI (gI M 1000 (x3 + 2)), iI (gI M 1000 (x3 + 3)), none] [] M (fun M' v => Wq 56 0 0 mL_law 337 [iR 1000, iR 0, iR 80, iI x3] (v.toList ++ [vI y0]) M' Q))) : Wq 56 0 0 mL_law 318 [iR 1000, iR 0, iR 80, iI x3] [vI y0] M Q := by
  obtain ⟨⟨s1, s2, s3⟩, H⟩ := H
  refine wq_aload_n (pc := 318) dL_law_318 rfl rfl ?_
  refine wq_aload_n (pc := 319) dL_law_319 rfl rfl ?_
  refine wq_iload_n (pc := 320) dL_law_320 rfl rfl ?_
  refine wq_iconst (pc := 321) dL_law_321 rfl ?_
  refine wq_iadd (pc := 322) dL_law_322 ?_
  refine wq_re (x := (wr (x3 + 1))) (y := (x3 + 1)) (Eq.trans (wr_eq (by omega) (by omega)) (by omega)) ?_
  refine wq_sld (pc := 323) dL_law_323 s1.1 s1.2 ?_
  refine wq_aload_n (pc := 324) dL_law_324 rfl rfl ?_
  refine wq_iload_n (pc := 325) dL_law_325 rfl rfl ?_
  refine wq_iconst (pc := 326) dL_law_326 rfl ?_
  refine wq_iadd (pc := 327) dL_law_327 ?_
  refine wq_re (x := (wr (x3 + 2))) (y := (x3 + 2)) (Eq.trans (wr_eq (by omega) (by omega)) (by omega)) ?_
  refine wq_sld (pc := 328) dL_law_328 s2.1 s2.2 ?_
  refine wq_aload_n (pc := 329) dL_law_329 rfl rfl ?_
  refine wq_iload_n (pc := 330) dL_law_330 rfl rfl ?_
  refine wq_iconst (pc := 331) dL_law_331 rfl ?_
  refine wq_iadd (pc := 332) dL_law_332 ?_
  refine wq_re (x := (wr (x3 + 3))) (y := (x3 + 3)) (Eq.trans (wr_eq (by omega) (by omega)) (by omega)) ?_
  refine wq_sld (pc := 333) dL_law_333 s3.1 s3.2 ?_
  refine wq_callV (d' := 3) (pc := 334) (as := [vI (gI M 1000 (x3 + 1)), vI (gI M 1000 (x3 + 2)), vI (gI M 1000 (x3 + 3))]) (rest := [vI y0]) (lo' := [iR 80, iI (gI M 1000 (x3 + 1)), iI (gI M 1000 (x3 + 2)), iI (gI M 1000 (x3 + 3)), none]) dL_law_334 mO_M_link lV_L_30 sh_80 (by decide) cl_11 rfl rfl rfl rfl rfl rfl ?_
  exact H

set_option maxRecDepth 20000 in
theorem B_L_law_337 {x3 y0 y1 : Int} {M : Mm} {Q : Mm → Option Mv → Prop} (hX : gI M 1000 (-1) ≤ 384) (H : ((y1 = y0 → ((-2147483648 ≤ x3 + 6 ∧ x3 + 6 < 2147483648) ∧ Wq 56 0 0 mL_law 18 [iR 1000, iR 0, iR 80, iI (x3 + 6)] [] M Q)) ∧ (¬ y1 = y0 → Q M (some (vI 0))))) : Wq 56 0 0 mL_law 337 [iR 1000, iR 0, iR 80, iI x3] [vI y0, vI y1] M Q := by
  refine wq_icmp_eq (pc := 337) (tgt := 1490) dL_law_337 (by decide) (fun c1 => ?_) (fun c1 => ?_)
  · have H := H.1 c1
    obtain ⟨s2, H⟩ := H
    refine wq_iinc (pc := 1490) (lo' := [iR 1000, iR 0, iR 80, iI (x3 + 6)]) dL_law_1490 rfl rfl (by rw [show wr (x3 + 6) = x3 + 6 from (Eq.trans (wr_eq (by omega) (by omega)) (by omega))]; rfl) ?_
    refine wq_goto (pc := 1493) (tgt := 18) dL_law_1493 (by decide) ?_
    exact H
  · have H := H.2 c1
    refine wq_iconst (pc := 340) dL_law_340 rfl ?_
    refine wq_ireturn (pc := 341) dL_law_341 (Or.inl rfl) ?_
    exact H

set_option maxRecDepth 20000 in
theorem B_L_law_356 {x3 y0 : Int} {M : Mm} {Q : Mm → Option Mv → Prop} (hX : gI M 1000 (-1) ≤ 384) (H : (((0 ≤ x3 + 1 ∧ x3 + 1 < gI M 1000 (-1)) ∧ (0 ≤ x3 + 2 ∧ x3 + 2 < gI M 1000 (-1))) ∧ Wq 3 0 0 mM_unlink 0 [iR 80, iI (gI M 1000 (x3 + 1)), iI (gI M 1000 (x3 + 2)), none, none, none] [] M (fun M' v => Wq 56 0 0 mL_law 370 [iR 1000, iR 0, iR 80, iI x3] (v.toList ++ [vI y0]) M' Q))) : Wq 56 0 0 mL_law 356 [iR 1000, iR 0, iR 80, iI x3] [vI y0] M Q := by
  obtain ⟨⟨s1, s2⟩, H⟩ := H
  refine wq_aload_n (pc := 356) dL_law_356 rfl rfl ?_
  refine wq_aload_n (pc := 357) dL_law_357 rfl rfl ?_
  refine wq_iload_n (pc := 358) dL_law_358 rfl rfl ?_
  refine wq_iconst (pc := 359) dL_law_359 rfl ?_
  refine wq_iadd (pc := 360) dL_law_360 ?_
  refine wq_re (x := (wr (x3 + 1))) (y := (x3 + 1)) (Eq.trans (wr_eq (by omega) (by omega)) (by omega)) ?_
  refine wq_sld (pc := 361) dL_law_361 s1.1 s1.2 ?_
  refine wq_aload_n (pc := 362) dL_law_362 rfl rfl ?_
  refine wq_iload_n (pc := 363) dL_law_363 rfl rfl ?_
  refine wq_iconst (pc := 364) dL_law_364 rfl ?_
  refine wq_iadd (pc := 365) dL_law_365 ?_
  refine wq_re (x := (wr (x3 + 2))) (y := (x3 + 2)) (Eq.trans (wr_eq (by omega) (by omega)) (by omega)) ?_
  refine wq_sld (pc := 366) dL_law_366 s2.1 s2.2 ?_
  refine wq_callV (d' := 3) (pc := 367) (as := [vI (gI M 1000 (x3 + 1)), vI (gI M 1000 (x3 + 2))]) (rest := [vI y0]) (lo' := [iR 80, iI (gI M 1000 (x3 + 1)), iI (gI M 1000 (x3 + 2)), none, none, none]) dL_law_367 mO_M_unlink lV_L_34 sh_80 (by decide) cl_11 rfl rfl rfl rfl rfl rfl ?_
  exact H

set_option maxRecDepth 20000 in
theorem B_L_law_370 {x3 y0 y1 : Int} {M : Mm} {Q : Mm → Option Mv → Prop} (hX : gI M 1000 (-1) ≤ 384) (H : ((y1 = y0 → ((-2147483648 ≤ x3 + 6 ∧ x3 + 6 < 2147483648) ∧ Wq 56 0 0 mL_law 18 [iR 1000, iR 0, iR 80, iI (x3 + 6)] [] M Q)) ∧ (¬ y1 = y0 → Q M (some (vI 0))))) : Wq 56 0 0 mL_law 370 [iR 1000, iR 0, iR 80, iI x3] [vI y0, vI y1] M Q := by
  refine wq_icmp_eq (pc := 370) (tgt := 1490) dL_law_370 (by decide) (fun c1 => ?_) (fun c1 => ?_)
  · have H := H.1 c1
    obtain ⟨s2, H⟩ := H
    refine wq_iinc (pc := 1490) (lo' := [iR 1000, iR 0, iR 80, iI (x3 + 6)]) dL_law_1490 rfl rfl (by rw [show wr (x3 + 6) = x3 + 6 from (Eq.trans (wr_eq (by omega) (by omega)) (by omega))]; rfl) ?_
    refine wq_goto (pc := 1493) (tgt := 18) dL_law_1493 (by decide) ?_
    exact H
  · have H := H.2 c1
    refine wq_iconst (pc := 373) dL_law_373 rfl ?_
    refine wq_ireturn (pc := 374) dL_law_374 (Or.inl rfl) ?_
    exact H

set_option maxRecDepth 20000 in
theorem B_L_law_384 {x3 y0 : Int} {M : Mm} {Q : Mm → Option Mv → Prop} (hX : gI M 1000 (-1) ≤ 384) (H : ((0 ≤ x3 + 1 ∧ x3 + 1 < gI M 1000 (-1)) ∧ Wq 2 0 0 mM_week 0 [iR 80, iI (gI M 1000 (x3 + 1)), none] [] M (fun M' v => Wq 56 0 0 mL_law 393 [iR 1000, iR 0, iR 80, iI x3] (v.toList ++ [vI y0]) M' Q))) : Wq 56 0 0 mL_law 384 [iR 1000, iR 0, iR 80, iI x3] [vI y0] M Q := by
  obtain ⟨s1, H⟩ := H
  refine wq_aload_n (pc := 384) dL_law_384 rfl rfl ?_
  refine wq_aload_n (pc := 385) dL_law_385 rfl rfl ?_
  refine wq_iload_n (pc := 386) dL_law_386 rfl rfl ?_
  refine wq_iconst (pc := 387) dL_law_387 rfl ?_
  refine wq_iadd (pc := 388) dL_law_388 ?_
  refine wq_re (x := (wr (x3 + 1))) (y := (x3 + 1)) (Eq.trans (wr_eq (by omega) (by omega)) (by omega)) ?_
  refine wq_sld (pc := 389) dL_law_389 s1.1 s1.2 ?_
  refine wq_callV (d' := 2) (pc := 390) (as := [vI (gI M 1000 (x3 + 1))]) (rest := [vI y0]) (lo' := [iR 80, iI (gI M 1000 (x3 + 1)), none]) dL_law_390 mO_M_week lV_L_39 sh_80 (by decide) cl_11 rfl rfl rfl rfl rfl rfl ?_
  exact H

set_option maxRecDepth 20000 in
theorem B_L_law_393 {x3 y0 y1 : Int} {M : Mm} {Q : Mm → Option Mv → Prop} (hX : gI M 1000 (-1) ≤ 384) (H : ((y1 = y0 → ((-2147483648 ≤ x3 + 6 ∧ x3 + 6 < 2147483648) ∧ Wq 56 0 0 mL_law 18 [iR 1000, iR 0, iR 80, iI (x3 + 6)] [] M Q)) ∧ (¬ y1 = y0 → Q M (some (vI 0))))) : Wq 56 0 0 mL_law 393 [iR 1000, iR 0, iR 80, iI x3] [vI y0, vI y1] M Q := by
  refine wq_icmp_eq (pc := 393) (tgt := 1490) dL_law_393 (by decide) (fun c1 => ?_) (fun c1 => ?_)
  · have H := H.1 c1
    obtain ⟨s2, H⟩ := H
    refine wq_iinc (pc := 1490) (lo' := [iR 1000, iR 0, iR 80, iI (x3 + 6)]) dL_law_1490 rfl rfl (by rw [show wr (x3 + 6) = x3 + 6 from (Eq.trans (wr_eq (by omega) (by omega)) (by omega))]; rfl) ?_
    refine wq_goto (pc := 1493) (tgt := 18) dL_law_1493 (by decide) ?_
    exact H
  · have H := H.2 c1
    refine wq_iconst (pc := 396) dL_law_396 rfl ?_
    refine wq_ireturn (pc := 397) dL_law_397 (Or.inl rfl) ?_
    exact H

set_option maxRecDepth 20000 in
theorem B_L_law_425 {x3 y0 : Int} {M : Mm} {Q : Mm → Option Mv → Prop} (hX : gI M 1000 (-1) ≤ 384) (H : (((0 ≤ x3 + 1 ∧ x3 + 1 < gI M 1000 (-1)) ∧ (0 ≤ x3 + 2 ∧ x3 + 2 < gI M 1000 (-1)) ∧ (0 ≤ x3 + 3 ∧ x3 + 3 < gI M 1000 (-1))) ∧ ((gI M 1000 (x3 + 3) = 0 → Wq 2 0 0 mM_rain 0 [iR 80, iI (gI M 1000 (x3 + 1)), iI (gI M 1000 (x3 + 2)), iI 0, none, none] [] M (fun M' v => Wq 56 0 0 mL_law 452 [iR 1000, iR 0, iR 80, iI x3] (v.toList ++ [vI y0]) M' Q)) ∧ (¬ gI M 1000 (x3 + 3) = 0 → Wq 2 0 0 mM_rain 0 [iR 80, iI (gI M 1000 (x3 + 1)), iI (gI M 1000 (x3 + 2)), iI 1, none, none] [] M (fun M' v => Wq 56 0 0 mL_law 452 [iR 1000, iR 0, iR 80, iI x3] (v.toList ++ [vI y0]) M' Q))))) : Wq 56 0 0 mL_law 425 [iR 1000, iR 0, iR 80, iI x3] [vI y0] M Q := by
  obtain ⟨⟨s1, s2, s3⟩, H⟩ := H
  refine wq_aload_n (pc := 425) dL_law_425 rfl rfl ?_
  refine wq_aload_n (pc := 426) dL_law_426 rfl rfl ?_
  refine wq_iload_n (pc := 427) dL_law_427 rfl rfl ?_
  refine wq_iconst (pc := 428) dL_law_428 rfl ?_
  refine wq_iadd (pc := 429) dL_law_429 ?_
  refine wq_re (x := (wr (x3 + 1))) (y := (x3 + 1)) (Eq.trans (wr_eq (by omega) (by omega)) (by omega)) ?_
  refine wq_sld (pc := 430) dL_law_430 s1.1 s1.2 ?_
  refine wq_aload_n (pc := 431) dL_law_431 rfl rfl ?_
  refine wq_iload_n (pc := 432) dL_law_432 rfl rfl ?_
  refine wq_iconst (pc := 433) dL_law_433 rfl ?_
  refine wq_iadd (pc := 434) dL_law_434 ?_
  refine wq_re (x := (wr (x3 + 2))) (y := (x3 + 2)) (Eq.trans (wr_eq (by omega) (by omega)) (by omega)) ?_
  refine wq_sld (pc := 435) dL_law_435 s2.1 s2.2 ?_
  refine wq_aload_n (pc := 436) dL_law_436 rfl rfl ?_
  refine wq_iload_n (pc := 437) dL_law_437 rfl rfl ?_
  refine wq_iconst (pc := 438) dL_law_438 rfl ?_
  refine wq_iadd (pc := 439) dL_law_439 ?_
  refine wq_re (x := (wr (x3 + 3))) (y := (x3 + 3)) (Eq.trans (wr_eq (by omega) (by omega)) (by omega)) ?_
  refine wq_sld (pc := 440) dL_law_440 s3.1 s3.2 ?_
  refine wq_if_eq (pc := 441) (tgt := 448) dL_law_441 (by decide) (fun c4 => ?_) (fun c4 => ?_)
  · have H := H.1 c4
    refine wq_iconst (pc := 448) dL_law_448 rfl ?_
    refine wq_callV (d' := 2) (pc := 449) (as := [vI (gI M 1000 (x3 + 1)), vI (gI M 1000 (x3 + 2)), vI 0]) (rest := [vI y0]) (lo' := [iR 80, iI (gI M 1000 (x3 + 1)), iI (gI M 1000 (x3 + 2)), iI 0, none, none]) dL_law_449 mO_M_rain lV_L_44 sh_80 (by decide) cl_11 rfl rfl rfl rfl rfl rfl ?_
    exact H
  · have H := H.2 c4
    refine wq_iconst (pc := 444) dL_law_444 rfl ?_
    refine wq_goto (pc := 445) (tgt := 449) dL_law_445 (by decide) ?_
    refine wq_callV (d' := 2) (pc := 449) (as := [vI (gI M 1000 (x3 + 1)), vI (gI M 1000 (x3 + 2)), vI 1]) (rest := [vI y0]) (lo' := [iR 80, iI (gI M 1000 (x3 + 1)), iI (gI M 1000 (x3 + 2)), iI 1, none, none]) dL_law_449 mO_M_rain lV_L_44 sh_80 (by decide) cl_11 rfl rfl rfl rfl rfl rfl ?_
    exact H

set_option maxRecDepth 20000 in
theorem B_L_law_452 {x3 y0 y1 : Int} {M : Mm} {Q : Mm → Option Mv → Prop} (hX : gI M 1000 (-1) ≤ 384) (H : ((y1 = y0 → ((-2147483648 ≤ x3 + 6 ∧ x3 + 6 < 2147483648) ∧ Wq 56 0 0 mL_law 18 [iR 1000, iR 0, iR 80, iI (x3 + 6)] [] M Q)) ∧ (¬ y1 = y0 → Q M (some (vI 0))))) : Wq 56 0 0 mL_law 452 [iR 1000, iR 0, iR 80, iI x3] [vI y0, vI y1] M Q := by
  refine wq_icmp_eq (pc := 452) (tgt := 1490) dL_law_452 (by decide) (fun c1 => ?_) (fun c1 => ?_)
  · have H := H.1 c1
    obtain ⟨s2, H⟩ := H
    refine wq_iinc (pc := 1490) (lo' := [iR 1000, iR 0, iR 80, iI (x3 + 6)]) dL_law_1490 rfl rfl (by rw [show wr (x3 + 6) = x3 + 6 from (Eq.trans (wr_eq (by omega) (by omega)) (by omega))]; rfl) ?_
    refine wq_goto (pc := 1493) (tgt := 18) dL_law_1493 (by decide) ?_
    exact H
  · have H := H.2 c1
    refine wq_iconst (pc := 455) dL_law_455 rfl ?_
    refine wq_ireturn (pc := 456) dL_law_456 (Or.inl rfl) ?_
    exact H

set_option maxRecDepth 20000 in
theorem B_L_law_466 {x3 y0 : Int} {M : Mm} {Q : Mm → Option Mv → Prop} (hX : gI M 1000 (-1) ≤ 384) (H : ((0 ≤ x3 + 1 ∧ x3 + 1 < gI M 1000 (-1)) ∧ Wq 2 0 0 mM_today 0 [iR 80, iI (gI M 1000 (x3 + 1)), none] [] M (fun M' v => Wq 56 0 0 mL_law 475 [iR 1000, iR 0, iR 80, iI x3] (v.toList ++ [vI y0]) M' Q))) : Wq 56 0 0 mL_law 466 [iR 1000, iR 0, iR 80, iI x3] [vI y0] M Q := by
  obtain ⟨s1, H⟩ := H
  refine wq_aload_n (pc := 466) dL_law_466 rfl rfl ?_
  refine wq_aload_n (pc := 467) dL_law_467 rfl rfl ?_
  refine wq_iload_n (pc := 468) dL_law_468 rfl rfl ?_
  refine wq_iconst (pc := 469) dL_law_469 rfl ?_
  refine wq_iadd (pc := 470) dL_law_470 ?_
  refine wq_re (x := (wr (x3 + 1))) (y := (x3 + 1)) (Eq.trans (wr_eq (by omega) (by omega)) (by omega)) ?_
  refine wq_sld (pc := 471) dL_law_471 s1.1 s1.2 ?_
  refine wq_callV (d' := 2) (pc := 472) (as := [vI (gI M 1000 (x3 + 1))]) (rest := [vI y0]) (lo' := [iR 80, iI (gI M 1000 (x3 + 1)), none]) dL_law_472 mO_M_today lV_L_48 sh_80 (by decide) cl_11 rfl rfl rfl rfl rfl rfl ?_
  exact H

set_option maxRecDepth 20000 in
theorem B_L_law_475 {x3 y0 y1 : Int} {M : Mm} {Q : Mm → Option Mv → Prop} (hX : gI M 1000 (-1) ≤ 384) (H : ((y1 = y0 → ((-2147483648 ≤ x3 + 6 ∧ x3 + 6 < 2147483648) ∧ Wq 56 0 0 mL_law 18 [iR 1000, iR 0, iR 80, iI (x3 + 6)] [] M Q)) ∧ (¬ y1 = y0 → Q M (some (vI 0))))) : Wq 56 0 0 mL_law 475 [iR 1000, iR 0, iR 80, iI x3] [vI y0, vI y1] M Q := by
  refine wq_icmp_eq (pc := 475) (tgt := 1490) dL_law_475 (by decide) (fun c1 => ?_) (fun c1 => ?_)
  · have H := H.1 c1
    obtain ⟨s2, H⟩ := H
    refine wq_iinc (pc := 1490) (lo' := [iR 1000, iR 0, iR 80, iI (x3 + 6)]) dL_law_1490 rfl rfl (by rw [show wr (x3 + 6) = x3 + 6 from (Eq.trans (wr_eq (by omega) (by omega)) (by omega))]; rfl) ?_
    refine wq_goto (pc := 1493) (tgt := 18) dL_law_1493 (by decide) ?_
    exact H
  · have H := H.2 c1
    refine wq_iconst (pc := 478) dL_law_478 rfl ?_
    refine wq_ireturn (pc := 479) dL_law_479 (Or.inl rfl) ?_
    exact H

set_option maxRecDepth 20000 in
theorem B_L_law_499 {x3 y0 : Int} {M : Mm} {Q : Mm → Option Mv → Prop} (hX : gI M 1000 (-1) ≤ 384) (H : (((0 ≤ x3 + 1 ∧ x3 + 1 < gI M 1000 (-1)) ∧ (0 ≤ x3 + 2 ∧ x3 + 2 < gI M 1000 (-1)) ∧ (0 ≤ x3 + 3 ∧ x3 + 3 < gI M 1000 (-1))) ∧ Wq 3 0 0 mM_event3 0 [iR 80, iI (gI M 1000 (x3 + 1)), iI (gI M 1000 (x3 + 2)), iI (gI M 1000 (x3 + 3)), none, none] [] M (fun M' v => Wq 56 0 0 mL_law 518 [iR 1000, iR 0, iR 80, iI x3] (v.toList ++ [vI y0]) M' Q))) : Wq 56 0 0 mL_law 499 [iR 1000, iR 0, iR 80, iI x3] [vI y0] M Q := by
  obtain ⟨⟨s1, s2, s3⟩, H⟩ := H
  refine wq_aload_n (pc := 499) dL_law_499 rfl rfl ?_
  refine wq_aload_n (pc := 500) dL_law_500 rfl rfl ?_
  refine wq_iload_n (pc := 501) dL_law_501 rfl rfl ?_
  refine wq_iconst (pc := 502) dL_law_502 rfl ?_
  refine wq_iadd (pc := 503) dL_law_503 ?_
  refine wq_re (x := (wr (x3 + 1))) (y := (x3 + 1)) (Eq.trans (wr_eq (by omega) (by omega)) (by omega)) ?_
  refine wq_sld (pc := 504) dL_law_504 s1.1 s1.2 ?_
  refine wq_aload_n (pc := 505) dL_law_505 rfl rfl ?_
  refine wq_iload_n (pc := 506) dL_law_506 rfl rfl ?_
  refine wq_iconst (pc := 507) dL_law_507 rfl ?_
  refine wq_iadd (pc := 508) dL_law_508 ?_
  refine wq_re (x := (wr (x3 + 2))) (y := (x3 + 2)) (Eq.trans (wr_eq (by omega) (by omega)) (by omega)) ?_
  refine wq_sld (pc := 509) dL_law_509 s2.1 s2.2 ?_
  refine wq_aload_n (pc := 510) dL_law_510 rfl rfl ?_
  refine wq_iload_n (pc := 511) dL_law_511 rfl rfl ?_
  refine wq_iconst (pc := 512) dL_law_512 rfl ?_
  refine wq_iadd (pc := 513) dL_law_513 ?_
  refine wq_re (x := (wr (x3 + 3))) (y := (x3 + 3)) (Eq.trans (wr_eq (by omega) (by omega)) (by omega)) ?_
  refine wq_sld (pc := 514) dL_law_514 s3.1 s3.2 ?_
  refine wq_callV (d' := 3) (pc := 515) (as := [vI (gI M 1000 (x3 + 1)), vI (gI M 1000 (x3 + 2)), vI (gI M 1000 (x3 + 3))]) (rest := [vI y0]) (lo' := [iR 80, iI (gI M 1000 (x3 + 1)), iI (gI M 1000 (x3 + 2)), iI (gI M 1000 (x3 + 3)), none, none]) dL_law_515 mO_M_event3 lV_L_52 sh_80 (by decide) cl_11 rfl rfl rfl rfl rfl rfl ?_
  exact H

set_option maxRecDepth 20000 in
theorem B_L_law_518 {x3 y0 y1 : Int} {M : Mm} {Q : Mm → Option Mv → Prop} (hX : gI M 1000 (-1) ≤ 384) (H : ((y1 = y0 → ((-2147483648 ≤ x3 + 6 ∧ x3 + 6 < 2147483648) ∧ Wq 56 0 0 mL_law 18 [iR 1000, iR 0, iR 80, iI (x3 + 6)] [] M Q)) ∧ (¬ y1 = y0 → Q M (some (vI 0))))) : Wq 56 0 0 mL_law 518 [iR 1000, iR 0, iR 80, iI x3] [vI y0, vI y1] M Q := by
  refine wq_icmp_eq (pc := 518) (tgt := 1490) dL_law_518 (by decide) (fun c1 => ?_) (fun c1 => ?_)
  · have H := H.1 c1
    obtain ⟨s2, H⟩ := H
    refine wq_iinc (pc := 1490) (lo' := [iR 1000, iR 0, iR 80, iI (x3 + 6)]) dL_law_1490 rfl rfl (by rw [show wr (x3 + 6) = x3 + 6 from (Eq.trans (wr_eq (by omega) (by omega)) (by omega))]; rfl) ?_
    refine wq_goto (pc := 1493) (tgt := 18) dL_law_1493 (by decide) ?_
    exact H
  · have H := H.2 c1
    refine wq_iconst (pc := 521) dL_law_521 rfl ?_
    refine wq_ireturn (pc := 522) dL_law_522 (Or.inl rfl) ?_
    exact H

set_option maxRecDepth 20000 in
theorem B_L_law_537 {x3 y0 : Int} {M : Mm} {Q : Mm → Option Mv → Prop} (hX : gI M 1000 (-1) ≤ 384) (H : (((0 ≤ x3 + 1 ∧ x3 + 1 < gI M 1000 (-1)) ∧ (0 ≤ x3 + 2 ∧ x3 + 2 < gI M 1000 (-1))) ∧ Wq 3 0 0 mM_notice 0 [iR 80, iI (gI M 1000 (x3 + 1)), iI (gI M 1000 (x3 + 2))] [] M (fun M' v => Wq 56 0 0 mL_law 551 [iR 1000, iR 0, iR 80, iI x3] (v.toList ++ [vI y0]) M' Q))) : Wq 56 0 0 mL_law 537 [iR 1000, iR 0, iR 80, iI x3] [vI y0] M Q := by
  obtain ⟨⟨s1, s2⟩, H⟩ := H
  refine wq_aload_n (pc := 537) dL_law_537 rfl rfl ?_
  refine wq_aload_n (pc := 538) dL_law_538 rfl rfl ?_
  refine wq_iload_n (pc := 539) dL_law_539 rfl rfl ?_
  refine wq_iconst (pc := 540) dL_law_540 rfl ?_
  refine wq_iadd (pc := 541) dL_law_541 ?_
  refine wq_re (x := (wr (x3 + 1))) (y := (x3 + 1)) (Eq.trans (wr_eq (by omega) (by omega)) (by omega)) ?_
  refine wq_sld (pc := 542) dL_law_542 s1.1 s1.2 ?_
  refine wq_aload_n (pc := 543) dL_law_543 rfl rfl ?_
  refine wq_iload_n (pc := 544) dL_law_544 rfl rfl ?_
  refine wq_iconst (pc := 545) dL_law_545 rfl ?_
  refine wq_iadd (pc := 546) dL_law_546 ?_
  refine wq_re (x := (wr (x3 + 2))) (y := (x3 + 2)) (Eq.trans (wr_eq (by omega) (by omega)) (by omega)) ?_
  refine wq_sld (pc := 547) dL_law_547 s2.1 s2.2 ?_
  refine wq_callV (d' := 3) (pc := 548) (as := [vI (gI M 1000 (x3 + 1)), vI (gI M 1000 (x3 + 2))]) (rest := [vI y0]) (lo' := [iR 80, iI (gI M 1000 (x3 + 1)), iI (gI M 1000 (x3 + 2))]) dL_law_548 mO_M_notice lV_L_56 sh_80 (by decide) cl_11 rfl rfl rfl rfl rfl rfl ?_
  exact H

set_option maxRecDepth 20000 in
theorem B_L_law_551 {x3 y0 y1 : Int} {M : Mm} {Q : Mm → Option Mv → Prop} (hX : gI M 1000 (-1) ≤ 384) (H : ((y1 = y0 → ((-2147483648 ≤ x3 + 6 ∧ x3 + 6 < 2147483648) ∧ Wq 56 0 0 mL_law 18 [iR 1000, iR 0, iR 80, iI (x3 + 6)] [] M Q)) ∧ (¬ y1 = y0 → Q M (some (vI 0))))) : Wq 56 0 0 mL_law 551 [iR 1000, iR 0, iR 80, iI x3] [vI y0, vI y1] M Q := by
  refine wq_icmp_eq (pc := 551) (tgt := 1490) dL_law_551 (by decide) (fun c1 => ?_) (fun c1 => ?_)
  · have H := H.1 c1
    obtain ⟨s2, H⟩ := H
    refine wq_iinc (pc := 1490) (lo' := [iR 1000, iR 0, iR 80, iI (x3 + 6)]) dL_law_1490 rfl rfl (by rw [show wr (x3 + 6) = x3 + 6 from (Eq.trans (wr_eq (by omega) (by omega)) (by omega))]; rfl) ?_
    refine wq_goto (pc := 1493) (tgt := 18) dL_law_1493 (by decide) ?_
    exact H
  · have H := H.2 c1
    refine wq_iconst (pc := 554) dL_law_554 rfl ?_
    refine wq_ireturn (pc := 555) dL_law_555 (Or.inl rfl) ?_
    exact H

set_option maxRecDepth 20000 in
theorem B_L_law_565 {x3 y0 : Int} {M : Mm} {Q : Mm → Option Mv → Prop} (hX : gI M 1000 (-1) ≤ 384) (H : ((0 ≤ x3 + 1 ∧ x3 + 1 < gI M 1000 (-1)) ∧ Wq 3 0 0 mM_back 0 [iR 80, iI (gI M 1000 (x3 + 1))] [] M (fun M' v => Wq 56 0 0 mL_law 574 [iR 1000, iR 0, iR 80, iI x3] (v.toList ++ [vI y0]) M' Q))) : Wq 56 0 0 mL_law 565 [iR 1000, iR 0, iR 80, iI x3] [vI y0] M Q := by
  obtain ⟨s1, H⟩ := H
  refine wq_aload_n (pc := 565) dL_law_565 rfl rfl ?_
  refine wq_aload_n (pc := 566) dL_law_566 rfl rfl ?_
  refine wq_iload_n (pc := 567) dL_law_567 rfl rfl ?_
  refine wq_iconst (pc := 568) dL_law_568 rfl ?_
  refine wq_iadd (pc := 569) dL_law_569 ?_
  refine wq_re (x := (wr (x3 + 1))) (y := (x3 + 1)) (Eq.trans (wr_eq (by omega) (by omega)) (by omega)) ?_
  refine wq_sld (pc := 570) dL_law_570 s1.1 s1.2 ?_
  refine wq_callV (d' := 3) (pc := 571) (as := [vI (gI M 1000 (x3 + 1))]) (rest := [vI y0]) (lo' := [iR 80, iI (gI M 1000 (x3 + 1))]) dL_law_571 mO_M_back lV_L_60 sh_80 (by decide) cl_11 rfl rfl rfl rfl rfl rfl ?_
  exact H

set_option maxRecDepth 20000 in
theorem B_L_law_574 {x3 y0 y1 : Int} {M : Mm} {Q : Mm → Option Mv → Prop} (hX : gI M 1000 (-1) ≤ 384) (H : ((y1 = y0 → ((-2147483648 ≤ x3 + 6 ∧ x3 + 6 < 2147483648) ∧ Wq 56 0 0 mL_law 18 [iR 1000, iR 0, iR 80, iI (x3 + 6)] [] M Q)) ∧ (¬ y1 = y0 → Q M (some (vI 0))))) : Wq 56 0 0 mL_law 574 [iR 1000, iR 0, iR 80, iI x3] [vI y0, vI y1] M Q := by
  refine wq_icmp_eq (pc := 574) (tgt := 1490) dL_law_574 (by decide) (fun c1 => ?_) (fun c1 => ?_)
  · have H := H.1 c1
    obtain ⟨s2, H⟩ := H
    refine wq_iinc (pc := 1490) (lo' := [iR 1000, iR 0, iR 80, iI (x3 + 6)]) dL_law_1490 rfl rfl (by rw [show wr (x3 + 6) = x3 + 6 from (Eq.trans (wr_eq (by omega) (by omega)) (by omega))]; rfl) ?_
    refine wq_goto (pc := 1493) (tgt := 18) dL_law_1493 (by decide) ?_
    exact H
  · have H := H.2 c1
    refine wq_iconst (pc := 577) dL_law_577 rfl ?_
    refine wq_ireturn (pc := 578) dL_law_578 (Or.inl rfl) ?_
    exact H

set_option maxRecDepth 20000 in
theorem B_L_law_593 {x3 y0 : Int} {M : Mm} {Q : Mm → Option Mv → Prop} (hX : gI M 1000 (-1) ≤ 384) (H : (((0 ≤ x3 + 1 ∧ x3 + 1 < gI M 1000 (-1)) ∧ (0 ≤ x3 + 2 ∧ x3 + 2 < gI M 1000 (-1))) ∧ Wq 3 0 0 mM_of 0 [iR 80, iI (gI M 1000 (x3 + 1)), iI (gI M 1000 (x3 + 2))] [] M (fun M' v => Wq 56 0 0 mL_law 607 [iR 1000, iR 0, iR 80, iI x3] (v.toList ++ [vI y0]) M' Q))) : Wq 56 0 0 mL_law 593 [iR 1000, iR 0, iR 80, iI x3] [vI y0] M Q := by
  obtain ⟨⟨s1, s2⟩, H⟩ := H
  refine wq_aload_n (pc := 593) dL_law_593 rfl rfl ?_
  refine wq_aload_n (pc := 594) dL_law_594 rfl rfl ?_
  refine wq_iload_n (pc := 595) dL_law_595 rfl rfl ?_
  refine wq_iconst (pc := 596) dL_law_596 rfl ?_
  refine wq_iadd (pc := 597) dL_law_597 ?_
  refine wq_re (x := (wr (x3 + 1))) (y := (x3 + 1)) (Eq.trans (wr_eq (by omega) (by omega)) (by omega)) ?_
  refine wq_sld (pc := 598) dL_law_598 s1.1 s1.2 ?_
  refine wq_aload_n (pc := 599) dL_law_599 rfl rfl ?_
  refine wq_iload_n (pc := 600) dL_law_600 rfl rfl ?_
  refine wq_iconst (pc := 601) dL_law_601 rfl ?_
  refine wq_iadd (pc := 602) dL_law_602 ?_
  refine wq_re (x := (wr (x3 + 2))) (y := (x3 + 2)) (Eq.trans (wr_eq (by omega) (by omega)) (by omega)) ?_
  refine wq_sld (pc := 603) dL_law_603 s2.1 s2.2 ?_
  refine wq_callV (d' := 3) (pc := 604) (as := [vI (gI M 1000 (x3 + 1)), vI (gI M 1000 (x3 + 2))]) (rest := [vI y0]) (lo' := [iR 80, iI (gI M 1000 (x3 + 1)), iI (gI M 1000 (x3 + 2))]) dL_law_604 mO_M_of lV_L_64 sh_80 (by decide) cl_11 rfl rfl rfl rfl rfl rfl ?_
  exact H

set_option maxRecDepth 20000 in
theorem B_L_law_607 {x3 y0 y1 : Int} {M : Mm} {Q : Mm → Option Mv → Prop} (hX : gI M 1000 (-1) ≤ 384) (H : ((y1 = y0 → ((-2147483648 ≤ x3 + 6 ∧ x3 + 6 < 2147483648) ∧ Wq 56 0 0 mL_law 18 [iR 1000, iR 0, iR 80, iI (x3 + 6)] [] M Q)) ∧ (¬ y1 = y0 → Q M (some (vI 0))))) : Wq 56 0 0 mL_law 607 [iR 1000, iR 0, iR 80, iI x3] [vI y0, vI y1] M Q := by
  refine wq_icmp_eq (pc := 607) (tgt := 1490) dL_law_607 (by decide) (fun c1 => ?_) (fun c1 => ?_)
  · have H := H.1 c1
    obtain ⟨s2, H⟩ := H
    refine wq_iinc (pc := 1490) (lo' := [iR 1000, iR 0, iR 80, iI (x3 + 6)]) dL_law_1490 rfl rfl (by rw [show wr (x3 + 6) = x3 + 6 from (Eq.trans (wr_eq (by omega) (by omega)) (by omega))]; rfl) ?_
    refine wq_goto (pc := 1493) (tgt := 18) dL_law_1493 (by decide) ?_
    exact H
  · have H := H.2 c1
    refine wq_iconst (pc := 610) dL_law_610 rfl ?_
    refine wq_ireturn (pc := 611) dL_law_611 (Or.inl rfl) ?_
    exact H

set_option maxRecDepth 20000 in
theorem B_L_law_621 {x3 y0 : Int} {M : Mm} {Q : Mm → Option Mv → Prop} (hX : gI M 1000 (-1) ≤ 384) (H : ((0 ≤ x3 + 1 ∧ x3 + 1 < gI M 1000 (-1)) ∧ Wq 3 0 0 mM_known 0 [iR 80, iI (gI M 1000 (x3 + 1))] [] M (fun M' v => Wq 56 0 0 mL_law 630 [iR 1000, iR 0, iR 80, iI x3] (v.toList ++ [vI y0]) M' Q))) : Wq 56 0 0 mL_law 621 [iR 1000, iR 0, iR 80, iI x3] [vI y0] M Q := by
  obtain ⟨s1, H⟩ := H
  refine wq_aload_n (pc := 621) dL_law_621 rfl rfl ?_
  refine wq_aload_n (pc := 622) dL_law_622 rfl rfl ?_
  refine wq_iload_n (pc := 623) dL_law_623 rfl rfl ?_
  refine wq_iconst (pc := 624) dL_law_624 rfl ?_
  refine wq_iadd (pc := 625) dL_law_625 ?_
  refine wq_re (x := (wr (x3 + 1))) (y := (x3 + 1)) (Eq.trans (wr_eq (by omega) (by omega)) (by omega)) ?_
  refine wq_sld (pc := 626) dL_law_626 s1.1 s1.2 ?_
  refine wq_callV (d' := 3) (pc := 627) (as := [vI (gI M 1000 (x3 + 1))]) (rest := [vI y0]) (lo' := [iR 80, iI (gI M 1000 (x3 + 1))]) dL_law_627 mO_M_known lV_L_68 sh_80 (by decide) cl_11 rfl rfl rfl rfl rfl rfl ?_
  exact H

set_option maxRecDepth 20000 in
theorem B_L_law_630 {x3 y0 y1 : Int} {M : Mm} {Q : Mm → Option Mv → Prop} (hX : gI M 1000 (-1) ≤ 384) (H : ((y1 = y0 → ((-2147483648 ≤ x3 + 6 ∧ x3 + 6 < 2147483648) ∧ Wq 56 0 0 mL_law 18 [iR 1000, iR 0, iR 80, iI (x3 + 6)] [] M Q)) ∧ (¬ y1 = y0 → Q M (some (vI 0))))) : Wq 56 0 0 mL_law 630 [iR 1000, iR 0, iR 80, iI x3] [vI y0, vI y1] M Q := by
  refine wq_icmp_eq (pc := 630) (tgt := 1490) dL_law_630 (by decide) (fun c1 => ?_) (fun c1 => ?_)
  · have H := H.1 c1
    obtain ⟨s2, H⟩ := H
    refine wq_iinc (pc := 1490) (lo' := [iR 1000, iR 0, iR 80, iI (x3 + 6)]) dL_law_1490 rfl rfl (by rw [show wr (x3 + 6) = x3 + 6 from (Eq.trans (wr_eq (by omega) (by omega)) (by omega))]; rfl) ?_
    refine wq_goto (pc := 1493) (tgt := 18) dL_law_1493 (by decide) ?_
    exact H
  · have H := H.2 c1
    refine wq_iconst (pc := 633) dL_law_633 rfl ?_
    refine wq_ireturn (pc := 634) dL_law_634 (Or.inl rfl) ?_
    exact H

set_option maxRecDepth 20000 in
theorem B_L_law_654 {x3 y0 : Int} {M : Mm} {Q : Mm → Option Mv → Prop} (hX : gI M 1000 (-1) ≤ 384) (H : (((0 ≤ x3 + 1 ∧ x3 + 1 < gI M 1000 (-1)) ∧ (0 ≤ x3 + 2 ∧ x3 + 2 < gI M 1000 (-1)) ∧ (0 ≤ x3 + 3 ∧ x3 + 3 < gI M 1000 (-1))) ∧ Wq 7 0 0 mM_plan 0 [iR 80, iI (gI M 1000 (x3 + 1)), iI (gI M 1000 (x3 + 2)), iI (gI M 1000 (x3 + 3)), none] [] M (fun M' v => Wq 56 0 0 mL_law 673 [iR 1000, iR 0, iR 80, iI x3] (v.toList ++ [vI y0]) M' Q))) : Wq 56 0 0 mL_law 654 [iR 1000, iR 0, iR 80, iI x3] [vI y0] M Q := by
  obtain ⟨⟨s1, s2, s3⟩, H⟩ := H
  refine wq_aload_n (pc := 654) dL_law_654 rfl rfl ?_
  refine wq_aload_n (pc := 655) dL_law_655 rfl rfl ?_
  refine wq_iload_n (pc := 656) dL_law_656 rfl rfl ?_
  refine wq_iconst (pc := 657) dL_law_657 rfl ?_
  refine wq_iadd (pc := 658) dL_law_658 ?_
  refine wq_re (x := (wr (x3 + 1))) (y := (x3 + 1)) (Eq.trans (wr_eq (by omega) (by omega)) (by omega)) ?_
  refine wq_sld (pc := 659) dL_law_659 s1.1 s1.2 ?_
  refine wq_aload_n (pc := 660) dL_law_660 rfl rfl ?_
  refine wq_iload_n (pc := 661) dL_law_661 rfl rfl ?_
  refine wq_iconst (pc := 662) dL_law_662 rfl ?_
  refine wq_iadd (pc := 663) dL_law_663 ?_
  refine wq_re (x := (wr (x3 + 2))) (y := (x3 + 2)) (Eq.trans (wr_eq (by omega) (by omega)) (by omega)) ?_
  refine wq_sld (pc := 664) dL_law_664 s2.1 s2.2 ?_
  refine wq_aload_n (pc := 665) dL_law_665 rfl rfl ?_
  refine wq_iload_n (pc := 666) dL_law_666 rfl rfl ?_
  refine wq_iconst (pc := 667) dL_law_667 rfl ?_
  refine wq_iadd (pc := 668) dL_law_668 ?_
  refine wq_re (x := (wr (x3 + 3))) (y := (x3 + 3)) (Eq.trans (wr_eq (by omega) (by omega)) (by omega)) ?_
  refine wq_sld (pc := 669) dL_law_669 s3.1 s3.2 ?_
  refine wq_callV (d' := 7) (pc := 670) (as := [vI (gI M 1000 (x3 + 1)), vI (gI M 1000 (x3 + 2)), vI (gI M 1000 (x3 + 3))]) (rest := [vI y0]) (lo' := [iR 80, iI (gI M 1000 (x3 + 1)), iI (gI M 1000 (x3 + 2)), iI (gI M 1000 (x3 + 3)), none]) dL_law_670 mO_M_plan lV_L_72 sh_80 (by decide) cl_11 rfl rfl rfl rfl rfl rfl ?_
  exact H

set_option maxRecDepth 20000 in
theorem B_L_law_673 {x3 y0 y1 : Int} {M : Mm} {Q : Mm → Option Mv → Prop} (hX : gI M 1000 (-1) ≤ 384) (H : ((y1 = y0 → ((-2147483648 ≤ x3 + 6 ∧ x3 + 6 < 2147483648) ∧ Wq 56 0 0 mL_law 18 [iR 1000, iR 0, iR 80, iI (x3 + 6)] [] M Q)) ∧ (¬ y1 = y0 → Q M (some (vI 0))))) : Wq 56 0 0 mL_law 673 [iR 1000, iR 0, iR 80, iI x3] [vI y0, vI y1] M Q := by
  refine wq_icmp_eq (pc := 673) (tgt := 1490) dL_law_673 (by decide) (fun c1 => ?_) (fun c1 => ?_)
  · have H := H.1 c1
    obtain ⟨s2, H⟩ := H
    refine wq_iinc (pc := 1490) (lo' := [iR 1000, iR 0, iR 80, iI (x3 + 6)]) dL_law_1490 rfl rfl (by rw [show wr (x3 + 6) = x3 + 6 from (Eq.trans (wr_eq (by omega) (by omega)) (by omega))]; rfl) ?_
    refine wq_goto (pc := 1493) (tgt := 18) dL_law_1493 (by decide) ?_
    exact H
  · have H := H.2 c1
    refine wq_iconst (pc := 676) dL_law_676 rfl ?_
    refine wq_ireturn (pc := 677) dL_law_677 (Or.inl rfl) ?_
    exact H

set_option maxRecDepth 20000 in
theorem B_L_law_687 {x3 y0 : Int} {M : Mm} {Q : Mm → Option Mv → Prop} (hX : gI M 1000 (-1) ≤ 384) (H : ((0 ≤ x3 + 1 ∧ x3 + 1 < gI M 1000 (-1)) ∧ Wq 6 0 0 mM_end 0 [iR 80, iI (gI M 1000 (x3 + 1))] [] M (fun M' v => Wq 56 0 0 mL_law 696 [iR 1000, iR 0, iR 80, iI x3] (v.toList ++ [vI y0]) M' Q))) : Wq 56 0 0 mL_law 687 [iR 1000, iR 0, iR 80, iI x3] [vI y0] M Q := by
  obtain ⟨s1, H⟩ := H
  refine wq_aload_n (pc := 687) dL_law_687 rfl rfl ?_
  refine wq_aload_n (pc := 688) dL_law_688 rfl rfl ?_
  refine wq_iload_n (pc := 689) dL_law_689 rfl rfl ?_
  refine wq_iconst (pc := 690) dL_law_690 rfl ?_
  refine wq_iadd (pc := 691) dL_law_691 ?_
  refine wq_re (x := (wr (x3 + 1))) (y := (x3 + 1)) (Eq.trans (wr_eq (by omega) (by omega)) (by omega)) ?_
  refine wq_sld (pc := 692) dL_law_692 s1.1 s1.2 ?_
  refine wq_callV (d' := 6) (pc := 693) (as := [vI (gI M 1000 (x3 + 1))]) (rest := [vI y0]) (lo' := [iR 80, iI (gI M 1000 (x3 + 1))]) dL_law_693 mO_M_end lV_L_76 sh_80 (by decide) cl_11 rfl rfl rfl rfl rfl rfl ?_
  exact H

set_option maxRecDepth 20000 in
theorem B_L_law_696 {x3 y0 y1 : Int} {M : Mm} {Q : Mm → Option Mv → Prop} (hX : gI M 1000 (-1) ≤ 384) (H : ((y1 = y0 → ((-2147483648 ≤ x3 + 6 ∧ x3 + 6 < 2147483648) ∧ Wq 56 0 0 mL_law 18 [iR 1000, iR 0, iR 80, iI (x3 + 6)] [] M Q)) ∧ (¬ y1 = y0 → Q M (some (vI 0))))) : Wq 56 0 0 mL_law 696 [iR 1000, iR 0, iR 80, iI x3] [vI y0, vI y1] M Q := by
  refine wq_icmp_eq (pc := 696) (tgt := 1490) dL_law_696 (by decide) (fun c1 => ?_) (fun c1 => ?_)
  · have H := H.1 c1
    obtain ⟨s2, H⟩ := H
    refine wq_iinc (pc := 1490) (lo' := [iR 1000, iR 0, iR 80, iI (x3 + 6)]) dL_law_1490 rfl rfl (by rw [show wr (x3 + 6) = x3 + 6 from (Eq.trans (wr_eq (by omega) (by omega)) (by omega))]; rfl) ?_
    refine wq_goto (pc := 1493) (tgt := 18) dL_law_1493 (by decide) ?_
    exact H
  · have H := H.2 c1
    refine wq_iconst (pc := 699) dL_law_699 rfl ?_
    refine wq_ireturn (pc := 700) dL_law_700 (Or.inl rfl) ?_
    exact H

set_option maxRecDepth 20000 in
theorem B_L_law_715 {x3 y0 : Int} {M : Mm} {Q : Mm → Option Mv → Prop} (hX : gI M 1000 (-1) ≤ 384) (H : (((0 ≤ x3 + 1 ∧ x3 + 1 < gI M 1000 (-1)) ∧ (0 ≤ x3 + 2 ∧ x3 + 2 < gI M 1000 (-1))) ∧ Wq 6 0 0 mM_chain 0 [iR 80, iI (gI M 1000 (x3 + 1)), iI (gI M 1000 (x3 + 2)), none, none, none, none, none, none, none] [] M (fun M' v => Wq 56 0 0 mL_law 729 [iR 1000, iR 0, iR 80, iI x3] (v.toList ++ [vI y0]) M' Q))) : Wq 56 0 0 mL_law 715 [iR 1000, iR 0, iR 80, iI x3] [vI y0] M Q := by
  obtain ⟨⟨s1, s2⟩, H⟩ := H
  refine wq_aload_n (pc := 715) dL_law_715 rfl rfl ?_
  refine wq_aload_n (pc := 716) dL_law_716 rfl rfl ?_
  refine wq_iload_n (pc := 717) dL_law_717 rfl rfl ?_
  refine wq_iconst (pc := 718) dL_law_718 rfl ?_
  refine wq_iadd (pc := 719) dL_law_719 ?_
  refine wq_re (x := (wr (x3 + 1))) (y := (x3 + 1)) (Eq.trans (wr_eq (by omega) (by omega)) (by omega)) ?_
  refine wq_sld (pc := 720) dL_law_720 s1.1 s1.2 ?_
  refine wq_aload_n (pc := 721) dL_law_721 rfl rfl ?_
  refine wq_iload_n (pc := 722) dL_law_722 rfl rfl ?_
  refine wq_iconst (pc := 723) dL_law_723 rfl ?_
  refine wq_iadd (pc := 724) dL_law_724 ?_
  refine wq_re (x := (wr (x3 + 2))) (y := (x3 + 2)) (Eq.trans (wr_eq (by omega) (by omega)) (by omega)) ?_
  refine wq_sld (pc := 725) dL_law_725 s2.1 s2.2 ?_
  refine wq_callV (d' := 6) (pc := 726) (as := [vI (gI M 1000 (x3 + 1)), vI (gI M 1000 (x3 + 2))]) (rest := [vI y0]) (lo' := [iR 80, iI (gI M 1000 (x3 + 1)), iI (gI M 1000 (x3 + 2)), none, none, none, none, none, none, none]) dL_law_726 mO_M_chain lV_L_80 sh_80 (by decide) cl_11 rfl rfl rfl rfl rfl rfl ?_
  exact H

set_option maxRecDepth 20000 in
theorem B_L_law_729 {x3 y0 y1 : Int} {M : Mm} {Q : Mm → Option Mv → Prop} (hX : gI M 1000 (-1) ≤ 384) (H : ((y1 = y0 → ((-2147483648 ≤ x3 + 6 ∧ x3 + 6 < 2147483648) ∧ Wq 56 0 0 mL_law 18 [iR 1000, iR 0, iR 80, iI (x3 + 6)] [] M Q)) ∧ (¬ y1 = y0 → Q M (some (vI 0))))) : Wq 56 0 0 mL_law 729 [iR 1000, iR 0, iR 80, iI x3] [vI y0, vI y1] M Q := by
  refine wq_icmp_eq (pc := 729) (tgt := 1490) dL_law_729 (by decide) (fun c1 => ?_) (fun c1 => ?_)
  · have H := H.1 c1
    obtain ⟨s2, H⟩ := H
    refine wq_iinc (pc := 1490) (lo' := [iR 1000, iR 0, iR 80, iI (x3 + 6)]) dL_law_1490 rfl rfl (by rw [show wr (x3 + 6) = x3 + 6 from (Eq.trans (wr_eq (by omega) (by omega)) (by omega))]; rfl) ?_
    refine wq_goto (pc := 1493) (tgt := 18) dL_law_1493 (by decide) ?_
    exact H
  · have H := H.2 c1
    refine wq_iconst (pc := 732) dL_law_732 rfl ?_
    refine wq_ireturn (pc := 733) dL_law_733 (Or.inl rfl) ?_
    exact H

set_option maxRecDepth 20000 in
theorem B_L_law_748 {x3 y0 : Int} {M : Mm} {Q : Mm → Option Mv → Prop} (hX : gI M 1000 (-1) ≤ 384) (H : (((0 ≤ x3 + 1 ∧ x3 + 1 < gI M 1000 (-1)) ∧ (0 ≤ x3 + 2 ∧ x3 + 2 < gI M 1000 (-1))) ∧ Wq 7 0 0 mM_one 0 [iR 80, iI (gI M 1000 (x3 + 1)), iI (gI M 1000 (x3 + 2)), none] [] M (fun M' v => Wq 56 0 0 mL_law 762 [iR 1000, iR 0, iR 80, iI x3] (v.toList ++ [vI y0]) M' Q))) : Wq 56 0 0 mL_law 748 [iR 1000, iR 0, iR 80, iI x3] [vI y0] M Q := by
  obtain ⟨⟨s1, s2⟩, H⟩ := H
  refine wq_aload_n (pc := 748) dL_law_748 rfl rfl ?_
  refine wq_aload_n (pc := 749) dL_law_749 rfl rfl ?_
  refine wq_iload_n (pc := 750) dL_law_750 rfl rfl ?_
  refine wq_iconst (pc := 751) dL_law_751 rfl ?_
  refine wq_iadd (pc := 752) dL_law_752 ?_
  refine wq_re (x := (wr (x3 + 1))) (y := (x3 + 1)) (Eq.trans (wr_eq (by omega) (by omega)) (by omega)) ?_
  refine wq_sld (pc := 753) dL_law_753 s1.1 s1.2 ?_
  refine wq_aload_n (pc := 754) dL_law_754 rfl rfl ?_
  refine wq_iload_n (pc := 755) dL_law_755 rfl rfl ?_
  refine wq_iconst (pc := 756) dL_law_756 rfl ?_
  refine wq_iadd (pc := 757) dL_law_757 ?_
  refine wq_re (x := (wr (x3 + 2))) (y := (x3 + 2)) (Eq.trans (wr_eq (by omega) (by omega)) (by omega)) ?_
  refine wq_sld (pc := 758) dL_law_758 s2.1 s2.2 ?_
  refine wq_callV (d' := 7) (pc := 759) (as := [vI (gI M 1000 (x3 + 1)), vI (gI M 1000 (x3 + 2))]) (rest := [vI y0]) (lo' := [iR 80, iI (gI M 1000 (x3 + 1)), iI (gI M 1000 (x3 + 2)), none]) dL_law_759 mO_M_one lV_L_84 sh_80 (by decide) cl_11 rfl rfl rfl rfl rfl rfl ?_
  exact H

set_option maxRecDepth 20000 in
theorem B_L_law_762 {x3 y0 y1 : Int} {M : Mm} {Q : Mm → Option Mv → Prop} (hX : gI M 1000 (-1) ≤ 384) (H : ((y1 = y0 → ((-2147483648 ≤ x3 + 6 ∧ x3 + 6 < 2147483648) ∧ Wq 56 0 0 mL_law 18 [iR 1000, iR 0, iR 80, iI (x3 + 6)] [] M Q)) ∧ (¬ y1 = y0 → Q M (some (vI 0))))) : Wq 56 0 0 mL_law 762 [iR 1000, iR 0, iR 80, iI x3] [vI y0, vI y1] M Q := by
  refine wq_icmp_eq (pc := 762) (tgt := 1490) dL_law_762 (by decide) (fun c1 => ?_) (fun c1 => ?_)
  · have H := H.1 c1
    obtain ⟨s2, H⟩ := H
    refine wq_iinc (pc := 1490) (lo' := [iR 1000, iR 0, iR 80, iI (x3 + 6)]) dL_law_1490 rfl rfl (by rw [show wr (x3 + 6) = x3 + 6 from (Eq.trans (wr_eq (by omega) (by omega)) (by omega))]; rfl) ?_
    refine wq_goto (pc := 1493) (tgt := 18) dL_law_1493 (by decide) ?_
    exact H
  · have H := H.2 c1
    refine wq_iconst (pc := 765) dL_law_765 rfl ?_
    refine wq_ireturn (pc := 766) dL_law_766 (Or.inl rfl) ?_
    exact H

set_option maxRecDepth 20000 in
theorem B_L_law_781 {x3 y0 : Int} {M : Mm} {Q : Mm → Option Mv → Prop} (hX : gI M 1000 (-1) ≤ 384) (H : (((0 ≤ x3 + 1 ∧ x3 + 1 < gI M 1000 (-1)) ∧ (0 ≤ x3 + 2 ∧ x3 + 2 < gI M 1000 (-1))) ∧ Wq 6 0 0 mM_without 0 [iR 80, iI (gI M 1000 (x3 + 1)), iI (gI M 1000 (x3 + 2)), none] [] M (fun M' v => Wq 56 0 0 mL_law 795 [iR 1000, iR 0, iR 80, iI x3] (v.toList ++ [vI y0]) M' Q))) : Wq 56 0 0 mL_law 781 [iR 1000, iR 0, iR 80, iI x3] [vI y0] M Q := by
  obtain ⟨⟨s1, s2⟩, H⟩ := H
  refine wq_aload_n (pc := 781) dL_law_781 rfl rfl ?_
  refine wq_aload_n (pc := 782) dL_law_782 rfl rfl ?_
  refine wq_iload_n (pc := 783) dL_law_783 rfl rfl ?_
  refine wq_iconst (pc := 784) dL_law_784 rfl ?_
  refine wq_iadd (pc := 785) dL_law_785 ?_
  refine wq_re (x := (wr (x3 + 1))) (y := (x3 + 1)) (Eq.trans (wr_eq (by omega) (by omega)) (by omega)) ?_
  refine wq_sld (pc := 786) dL_law_786 s1.1 s1.2 ?_
  refine wq_aload_n (pc := 787) dL_law_787 rfl rfl ?_
  refine wq_iload_n (pc := 788) dL_law_788 rfl rfl ?_
  refine wq_iconst (pc := 789) dL_law_789 rfl ?_
  refine wq_iadd (pc := 790) dL_law_790 ?_
  refine wq_re (x := (wr (x3 + 2))) (y := (x3 + 2)) (Eq.trans (wr_eq (by omega) (by omega)) (by omega)) ?_
  refine wq_sld (pc := 791) dL_law_791 s2.1 s2.2 ?_
  refine wq_callV (d' := 6) (pc := 792) (as := [vI (gI M 1000 (x3 + 1)), vI (gI M 1000 (x3 + 2))]) (rest := [vI y0]) (lo' := [iR 80, iI (gI M 1000 (x3 + 1)), iI (gI M 1000 (x3 + 2)), none]) dL_law_792 mO_M_without lV_L_88 sh_80 (by decide) cl_11 rfl rfl rfl rfl rfl rfl ?_
  exact H

set_option maxRecDepth 20000 in
theorem B_L_law_795 {x3 y0 y1 : Int} {M : Mm} {Q : Mm → Option Mv → Prop} (hX : gI M 1000 (-1) ≤ 384) (H : ((y1 = y0 → ((-2147483648 ≤ x3 + 6 ∧ x3 + 6 < 2147483648) ∧ Wq 56 0 0 mL_law 18 [iR 1000, iR 0, iR 80, iI (x3 + 6)] [] M Q)) ∧ (¬ y1 = y0 → Q M (some (vI 0))))) : Wq 56 0 0 mL_law 795 [iR 1000, iR 0, iR 80, iI x3] [vI y0, vI y1] M Q := by
  refine wq_icmp_eq (pc := 795) (tgt := 1490) dL_law_795 (by decide) (fun c1 => ?_) (fun c1 => ?_)
  · have H := H.1 c1
    obtain ⟨s2, H⟩ := H
    refine wq_iinc (pc := 1490) (lo' := [iR 1000, iR 0, iR 80, iI (x3 + 6)]) dL_law_1490 rfl rfl (by rw [show wr (x3 + 6) = x3 + 6 from (Eq.trans (wr_eq (by omega) (by omega)) (by omega))]; rfl) ?_
    refine wq_goto (pc := 1493) (tgt := 18) dL_law_1493 (by decide) ?_
    exact H
  · have H := H.2 c1
    refine wq_iconst (pc := 798) dL_law_798 rfl ?_
    refine wq_ireturn (pc := 799) dL_law_799 (Or.inl rfl) ?_
    exact H

set_option maxRecDepth 20000 in
theorem B_L_law_814 {x3 y0 : Int} {M : Mm} {Q : Mm → Option Mv → Prop} (hX : gI M 1000 (-1) ≤ 384) (H : (((0 ≤ x3 + 1 ∧ x3 + 1 < gI M 1000 (-1)) ∧ (0 ≤ x3 + 2 ∧ x3 + 2 < gI M 1000 (-1))) ∧ Wq 6 0 0 mM_butFor 0 [iR 80, iI (gI M 1000 (x3 + 1)), iI (gI M 1000 (x3 + 2)), none, none, none] [] M (fun M' v => Wq 56 0 0 mL_law 828 [iR 1000, iR 0, iR 80, iI x3] (v.toList ++ [vI y0]) M' Q))) : Wq 56 0 0 mL_law 814 [iR 1000, iR 0, iR 80, iI x3] [vI y0] M Q := by
  obtain ⟨⟨s1, s2⟩, H⟩ := H
  refine wq_aload_n (pc := 814) dL_law_814 rfl rfl ?_
  refine wq_aload_n (pc := 815) dL_law_815 rfl rfl ?_
  refine wq_iload_n (pc := 816) dL_law_816 rfl rfl ?_
  refine wq_iconst (pc := 817) dL_law_817 rfl ?_
  refine wq_iadd (pc := 818) dL_law_818 ?_
  refine wq_re (x := (wr (x3 + 1))) (y := (x3 + 1)) (Eq.trans (wr_eq (by omega) (by omega)) (by omega)) ?_
  refine wq_sld (pc := 819) dL_law_819 s1.1 s1.2 ?_
  refine wq_aload_n (pc := 820) dL_law_820 rfl rfl ?_
  refine wq_iload_n (pc := 821) dL_law_821 rfl rfl ?_
  refine wq_iconst (pc := 822) dL_law_822 rfl ?_
  refine wq_iadd (pc := 823) dL_law_823 ?_
  refine wq_re (x := (wr (x3 + 2))) (y := (x3 + 2)) (Eq.trans (wr_eq (by omega) (by omega)) (by omega)) ?_
  refine wq_sld (pc := 824) dL_law_824 s2.1 s2.2 ?_
  refine wq_callV (d' := 6) (pc := 825) (as := [vI (gI M 1000 (x3 + 1)), vI (gI M 1000 (x3 + 2))]) (rest := [vI y0]) (lo' := [iR 80, iI (gI M 1000 (x3 + 1)), iI (gI M 1000 (x3 + 2)), none, none, none]) dL_law_825 mO_M_butFor lV_L_92 sh_80 (by decide) cl_11 rfl rfl rfl rfl rfl rfl ?_
  exact H

set_option maxRecDepth 20000 in
theorem B_L_law_828 {x3 y0 y1 : Int} {M : Mm} {Q : Mm → Option Mv → Prop} (hX : gI M 1000 (-1) ≤ 384) (H : ((y1 = y0 → ((-2147483648 ≤ x3 + 6 ∧ x3 + 6 < 2147483648) ∧ Wq 56 0 0 mL_law 18 [iR 1000, iR 0, iR 80, iI (x3 + 6)] [] M Q)) ∧ (¬ y1 = y0 → Q M (some (vI 0))))) : Wq 56 0 0 mL_law 828 [iR 1000, iR 0, iR 80, iI x3] [vI y0, vI y1] M Q := by
  refine wq_icmp_eq (pc := 828) (tgt := 1490) dL_law_828 (by decide) (fun c1 => ?_) (fun c1 => ?_)
  · have H := H.1 c1
    obtain ⟨s2, H⟩ := H
    refine wq_iinc (pc := 1490) (lo' := [iR 1000, iR 0, iR 80, iI (x3 + 6)]) dL_law_1490 rfl rfl (by rw [show wr (x3 + 6) = x3 + 6 from (Eq.trans (wr_eq (by omega) (by omega)) (by omega))]; rfl) ?_
    refine wq_goto (pc := 1493) (tgt := 18) dL_law_1493 (by decide) ?_
    exact H
  · have H := H.2 c1
    refine wq_iconst (pc := 831) dL_law_831 rfl ?_
    refine wq_ireturn (pc := 832) dL_law_832 (Or.inl rfl) ?_
    exact H

set_option maxRecDepth 20000 in
theorem B_L_law_857 {x3 y0 : Int} {M : Mm} {Q : Mm → Option Mv → Prop} (hX : gI M 1000 (-1) ≤ 384) (H : (((0 ≤ x3 + 1 ∧ x3 + 1 < gI M 1000 (-1)) ∧ (0 ≤ x3 + 2 ∧ x3 + 2 < gI M 1000 (-1)) ∧ (0 ≤ x3 + 3 ∧ x3 + 3 < gI M 1000 (-1)) ∧ (0 ≤ x3 + 4 ∧ x3 + 4 < gI M 1000 (-1))) ∧ Wq 6 0 0 mM_window 0 [iR 80, iI (gI M 1000 (x3 + 1)), iI (gI M 1000 (x3 + 2)), iI (gI M 1000 (x3 + 3)), iI (gI M 1000 (x3 + 4)), none, none, none, none, none] [] M (fun M' v => Wq 56 0 0 mL_law 881 [iR 1000, iR 0, iR 80, iI x3] (v.toList ++ [vI y0]) M' Q))) : Wq 56 0 0 mL_law 857 [iR 1000, iR 0, iR 80, iI x3] [vI y0] M Q := by
  obtain ⟨⟨s1, s2, s3, s4⟩, H⟩ := H
  refine wq_aload_n (pc := 857) dL_law_857 rfl rfl ?_
  refine wq_aload_n (pc := 858) dL_law_858 rfl rfl ?_
  refine wq_iload_n (pc := 859) dL_law_859 rfl rfl ?_
  refine wq_iconst (pc := 860) dL_law_860 rfl ?_
  refine wq_iadd (pc := 861) dL_law_861 ?_
  refine wq_re (x := (wr (x3 + 1))) (y := (x3 + 1)) (Eq.trans (wr_eq (by omega) (by omega)) (by omega)) ?_
  refine wq_sld (pc := 862) dL_law_862 s1.1 s1.2 ?_
  refine wq_aload_n (pc := 863) dL_law_863 rfl rfl ?_
  refine wq_iload_n (pc := 864) dL_law_864 rfl rfl ?_
  refine wq_iconst (pc := 865) dL_law_865 rfl ?_
  refine wq_iadd (pc := 866) dL_law_866 ?_
  refine wq_re (x := (wr (x3 + 2))) (y := (x3 + 2)) (Eq.trans (wr_eq (by omega) (by omega)) (by omega)) ?_
  refine wq_sld (pc := 867) dL_law_867 s2.1 s2.2 ?_
  refine wq_aload_n (pc := 868) dL_law_868 rfl rfl ?_
  refine wq_iload_n (pc := 869) dL_law_869 rfl rfl ?_
  refine wq_iconst (pc := 870) dL_law_870 rfl ?_
  refine wq_iadd (pc := 871) dL_law_871 ?_
  refine wq_re (x := (wr (x3 + 3))) (y := (x3 + 3)) (Eq.trans (wr_eq (by omega) (by omega)) (by omega)) ?_
  refine wq_sld (pc := 872) dL_law_872 s3.1 s3.2 ?_
  refine wq_aload_n (pc := 873) dL_law_873 rfl rfl ?_
  refine wq_iload_n (pc := 874) dL_law_874 rfl rfl ?_
  refine wq_iconst (pc := 875) dL_law_875 rfl ?_
  refine wq_iadd (pc := 876) dL_law_876 ?_
  refine wq_re (x := (wr (x3 + 4))) (y := (x3 + 4)) (Eq.trans (wr_eq (by omega) (by omega)) (by omega)) ?_
  refine wq_sld (pc := 877) dL_law_877 s4.1 s4.2 ?_
  refine wq_callV (d' := 6) (pc := 878) (as := [vI (gI M 1000 (x3 + 1)), vI (gI M 1000 (x3 + 2)), vI (gI M 1000 (x3 + 3)), vI (gI M 1000 (x3 + 4))]) (rest := [vI y0]) (lo' := [iR 80, iI (gI M 1000 (x3 + 1)), iI (gI M 1000 (x3 + 2)), iI (gI M 1000 (x3 + 3)), iI (gI M 1000 (x3 + 4)), none, none, none, none, none]) dL_law_878 mO_M_window lV_L_97 sh_80 (by decide) cl_11 rfl rfl rfl rfl rfl rfl ?_
  exact H

set_option maxRecDepth 20000 in
theorem B_L_law_881 {x3 y0 y1 : Int} {M : Mm} {Q : Mm → Option Mv → Prop} (hX : gI M 1000 (-1) ≤ 384) (H : ((y1 = y0 → ((-2147483648 ≤ x3 + 6 ∧ x3 + 6 < 2147483648) ∧ Wq 56 0 0 mL_law 18 [iR 1000, iR 0, iR 80, iI (x3 + 6)] [] M Q)) ∧ (¬ y1 = y0 → Q M (some (vI 0))))) : Wq 56 0 0 mL_law 881 [iR 1000, iR 0, iR 80, iI x3] [vI y0, vI y1] M Q := by
  refine wq_icmp_eq (pc := 881) (tgt := 1490) dL_law_881 (by decide) (fun c1 => ?_) (fun c1 => ?_)
  · have H := H.1 c1
    obtain ⟨s2, H⟩ := H
    refine wq_iinc (pc := 1490) (lo' := [iR 1000, iR 0, iR 80, iI (x3 + 6)]) dL_law_1490 rfl rfl (by rw [show wr (x3 + 6) = x3 + 6 from (Eq.trans (wr_eq (by omega) (by omega)) (by omega))]; rfl) ?_
    refine wq_goto (pc := 1493) (tgt := 18) dL_law_1493 (by decide) ?_
    exact H
  · have H := H.2 c1
    refine wq_iconst (pc := 884) dL_law_884 rfl ?_
    refine wq_ireturn (pc := 885) dL_law_885 (Or.inl rfl) ?_
    exact H

set_option maxRecDepth 20000 in
theorem B_L_law_915 {x3 y0 : Int} {M : Mm} {Q : Mm → Option Mv → Prop} (hX : gI M 1000 (-1) ≤ 384) (H : (((0 ≤ x3 + 1 ∧ x3 + 1 < gI M 1000 (-1)) ∧ (0 ≤ x3 + 2 ∧ x3 + 2 < gI M 1000 (-1)) ∧ (0 ≤ x3 + 3 ∧ x3 + 3 < gI M 1000 (-1))) ∧ Wq 2 0 0 mM_feed 0 [iR 80, iL (lOr (lShl (gI M 1000 (x3 + 1)) 32) (lAnd (gI M 1000 (x3 + 2)) 4294967295)), none, iI (gI M 1000 (x3 + 3)), none] [] M (fun M' v => Wq 56 0 0 mL_law 944 [iR 1000, iR 0, iR 80, iI x3] (v.toList ++ [vI y0]) M' Q))) : Wq 56 0 0 mL_law 915 [iR 1000, iR 0, iR 80, iI x3] [vI y0] M Q := by
  obtain ⟨⟨s1, s2, s3⟩, H⟩ := H
  refine wq_aload_n (pc := 915) dL_law_915 rfl rfl ?_
  refine wq_aload_n (pc := 916) dL_law_916 rfl rfl ?_
  refine wq_iload_n (pc := 917) dL_law_917 rfl rfl ?_
  refine wq_iconst (pc := 918) dL_law_918 rfl ?_
  refine wq_iadd (pc := 919) dL_law_919 ?_
  refine wq_re (x := (wr (x3 + 1))) (y := (x3 + 1)) (Eq.trans (wr_eq (by omega) (by omega)) (by omega)) ?_
  refine wq_sld (pc := 920) dL_law_920 s1.1 s1.2 ?_
  refine wq_i2l (pc := 921) dL_law_921 ?_
  refine wq_bipush (pc := 922) dL_law_922 rfl ?_
  refine wq_lshl (pc := 924) dL_law_924 ?_
  refine wq_aload_n (pc := 925) dL_law_925 rfl rfl ?_
  refine wq_iload_n (pc := 926) dL_law_926 rfl rfl ?_
  refine wq_iconst (pc := 927) dL_law_927 rfl ?_
  refine wq_iadd (pc := 928) dL_law_928 ?_
  refine wq_re (x := (wr (x3 + 2))) (y := (x3 + 2)) (Eq.trans (wr_eq (by omega) (by omega)) (by omega)) ?_
  refine wq_sld (pc := 929) dL_law_929 s2.1 s2.2 ?_
  refine wq_i2l (pc := 930) dL_law_930 ?_
  refine wq_ldc2 (pc := 931) (z := 4294967295) dL_law_931 kO_L_98 (by decide) ?_
  refine wq_land (pc := 934) dL_law_934 ?_
  refine wq_lor (pc := 935) dL_law_935 ?_
  refine wq_aload_n (pc := 936) dL_law_936 rfl rfl ?_
  refine wq_iload_n (pc := 937) dL_law_937 rfl rfl ?_
  refine wq_iconst (pc := 938) dL_law_938 rfl ?_
  refine wq_iadd (pc := 939) dL_law_939 ?_
  refine wq_re (x := (wr (x3 + 3))) (y := (x3 + 3)) (Eq.trans (wr_eq (by omega) (by omega)) (by omega)) ?_
  refine wq_sld (pc := 940) dL_law_940 s3.1 s3.2 ?_
  refine wq_callV (d' := 2) (pc := 941) (as := [vL (lOr (lShl (gI M 1000 (x3 + 1)) 32) (lAnd (gI M 1000 (x3 + 2)) 4294967295)), vI (gI M 1000 (x3 + 3))]) (rest := [vI y0]) (lo' := [iR 80, iL (lOr (lShl (gI M 1000 (x3 + 1)) 32) (lAnd (gI M 1000 (x3 + 2)) 4294967295)), none, iI (gI M 1000 (x3 + 3)), none]) dL_law_941 mO_M_feed lV_L_104 sh_80 (by decide) cl_11 rfl rfl rfl rfl rfl rfl ?_
  exact H

set_option maxRecDepth 20000 in
theorem B_L_law_944 {x3 y0 y1 : Int} {M : Mm} {Q : Mm → Option Mv → Prop} (hX : gI M 1000 (-1) ≤ 384) (H : ((y1 = y0 → ((-2147483648 ≤ x3 + 6 ∧ x3 + 6 < 2147483648) ∧ Wq 56 0 0 mL_law 18 [iR 1000, iR 0, iR 80, iI (x3 + 6)] [] M Q)) ∧ (¬ y1 = y0 → Q M (some (vI 0))))) : Wq 56 0 0 mL_law 944 [iR 1000, iR 0, iR 80, iI x3] [vI y0, vI y1] M Q := by
  refine wq_icmp_eq (pc := 944) (tgt := 1490) dL_law_944 (by decide) (fun c1 => ?_) (fun c1 => ?_)
  · have H := H.1 c1
    obtain ⟨s2, H⟩ := H
    refine wq_iinc (pc := 1490) (lo' := [iR 1000, iR 0, iR 80, iI (x3 + 6)]) dL_law_1490 rfl rfl (by rw [show wr (x3 + 6) = x3 + 6 from (Eq.trans (wr_eq (by omega) (by omega)) (by omega))]; rfl) ?_
    refine wq_goto (pc := 1493) (tgt := 18) dL_law_1493 (by decide) ?_
    exact H
  · have H := H.2 c1
    refine wq_iconst (pc := 947) dL_law_947 rfl ?_
    refine wq_ireturn (pc := 948) dL_law_948 (Or.inl rfl) ?_
    exact H

set_option maxRecDepth 20000 in
theorem B_L_law_963 {x3 y0 : Int} {M : Mm} {Q : Mm → Option Mv → Prop} (hX : gI M 1000 (-1) ≤ 384) (H : (((0 ≤ x3 + 1 ∧ x3 + 1 < gI M 1000 (-1)) ∧ (0 ≤ x3 + 2 ∧ x3 + 2 < gI M 1000 (-1))) ∧ Wq 51 0 0 mM_clause 0 [iR 80, iI (gI M 1000 (x3 + 1)), iI (gI M 1000 (x3 + 2)), none, none, none] [] M (fun M' v => Wq 56 0 0 mL_law 977 [iR 1000, iR 0, iR 80, iI x3] (v.toList ++ [vI y0]) M' Q))) : Wq 56 0 0 mL_law 963 [iR 1000, iR 0, iR 80, iI x3] [vI y0] M Q := by
  obtain ⟨⟨s1, s2⟩, H⟩ := H
  refine wq_aload_n (pc := 963) dL_law_963 rfl rfl ?_
  refine wq_aload_n (pc := 964) dL_law_964 rfl rfl ?_
  refine wq_iload_n (pc := 965) dL_law_965 rfl rfl ?_
  refine wq_iconst (pc := 966) dL_law_966 rfl ?_
  refine wq_iadd (pc := 967) dL_law_967 ?_
  refine wq_re (x := (wr (x3 + 1))) (y := (x3 + 1)) (Eq.trans (wr_eq (by omega) (by omega)) (by omega)) ?_
  refine wq_sld (pc := 968) dL_law_968 s1.1 s1.2 ?_
  refine wq_aload_n (pc := 969) dL_law_969 rfl rfl ?_
  refine wq_iload_n (pc := 970) dL_law_970 rfl rfl ?_
  refine wq_iconst (pc := 971) dL_law_971 rfl ?_
  refine wq_iadd (pc := 972) dL_law_972 ?_
  refine wq_re (x := (wr (x3 + 2))) (y := (x3 + 2)) (Eq.trans (wr_eq (by omega) (by omega)) (by omega)) ?_
  refine wq_sld (pc := 973) dL_law_973 s2.1 s2.2 ?_
  refine wq_callV (d' := 51) (pc := 974) (as := [vI (gI M 1000 (x3 + 1)), vI (gI M 1000 (x3 + 2))]) (rest := [vI y0]) (lo' := [iR 80, iI (gI M 1000 (x3 + 1)), iI (gI M 1000 (x3 + 2)), none, none, none]) dL_law_974 mO_M_clause lV_L_108 sh_80 (by decide) cl_11 rfl rfl rfl rfl rfl rfl ?_
  exact H

set_option maxRecDepth 20000 in
theorem B_L_law_977 {x3 y0 y1 : Int} {M : Mm} {Q : Mm → Option Mv → Prop} (hX : gI M 1000 (-1) ≤ 384) (H : ((y1 = y0 → ((-2147483648 ≤ x3 + 6 ∧ x3 + 6 < 2147483648) ∧ Wq 56 0 0 mL_law 18 [iR 1000, iR 0, iR 80, iI (x3 + 6)] [] M Q)) ∧ (¬ y1 = y0 → Q M (some (vI 0))))) : Wq 56 0 0 mL_law 977 [iR 1000, iR 0, iR 80, iI x3] [vI y0, vI y1] M Q := by
  refine wq_icmp_eq (pc := 977) (tgt := 1490) dL_law_977 (by decide) (fun c1 => ?_) (fun c1 => ?_)
  · have H := H.1 c1
    obtain ⟨s2, H⟩ := H
    refine wq_iinc (pc := 1490) (lo' := [iR 1000, iR 0, iR 80, iI (x3 + 6)]) dL_law_1490 rfl rfl (by rw [show wr (x3 + 6) = x3 + 6 from (Eq.trans (wr_eq (by omega) (by omega)) (by omega))]; rfl) ?_
    refine wq_goto (pc := 1493) (tgt := 18) dL_law_1493 (by decide) ?_
    exact H
  · have H := H.2 c1
    refine wq_iconst (pc := 980) dL_law_980 rfl ?_
    refine wq_ireturn (pc := 981) dL_law_981 (Or.inl rfl) ?_
    exact H

set_option maxRecDepth 20000 in
theorem B_L_law_996 {x3 y0 : Int} {M : Mm} {Q : Mm → Option Mv → Prop} (hX : gI M 1000 (-1) ≤ 384) (H : (((0 ≤ x3 + 1 ∧ x3 + 1 < gI M 1000 (-1)) ∧ (0 ≤ x3 + 2 ∧ x3 + 2 < gI M 1000 (-1))) ∧ Wq 11 0 0 mM_says 0 [iR 80, iI (gI M 1000 (x3 + 1)), iI (gI M 1000 (x3 + 2))] [] M (fun M' v => Wq 56 0 0 mL_law 1010 [iR 1000, iR 0, iR 80, iI x3] (v.toList ++ [vI y0]) M' Q))) : Wq 56 0 0 mL_law 996 [iR 1000, iR 0, iR 80, iI x3] [vI y0] M Q := by
  obtain ⟨⟨s1, s2⟩, H⟩ := H
  refine wq_aload_n (pc := 996) dL_law_996 rfl rfl ?_
  refine wq_aload_n (pc := 997) dL_law_997 rfl rfl ?_
  refine wq_iload_n (pc := 998) dL_law_998 rfl rfl ?_
  refine wq_iconst (pc := 999) dL_law_999 rfl ?_
  refine wq_iadd (pc := 1000) dL_law_1000 ?_
  refine wq_re (x := (wr (x3 + 1))) (y := (x3 + 1)) (Eq.trans (wr_eq (by omega) (by omega)) (by omega)) ?_
  refine wq_sld (pc := 1001) dL_law_1001 s1.1 s1.2 ?_
  refine wq_aload_n (pc := 1002) dL_law_1002 rfl rfl ?_
  refine wq_iload_n (pc := 1003) dL_law_1003 rfl rfl ?_
  refine wq_iconst (pc := 1004) dL_law_1004 rfl ?_
  refine wq_iadd (pc := 1005) dL_law_1005 ?_
  refine wq_re (x := (wr (x3 + 2))) (y := (x3 + 2)) (Eq.trans (wr_eq (by omega) (by omega)) (by omega)) ?_
  refine wq_sld (pc := 1006) dL_law_1006 s2.1 s2.2 ?_
  refine wq_callV (d' := 11) (pc := 1007) (as := [vI (gI M 1000 (x3 + 1)), vI (gI M 1000 (x3 + 2))]) (rest := [vI y0]) (lo' := [iR 80, iI (gI M 1000 (x3 + 1)), iI (gI M 1000 (x3 + 2))]) dL_law_1007 mO_M_says lV_L_112 sh_80 (by decide) cl_11 rfl rfl rfl rfl rfl rfl ?_
  exact H

set_option maxRecDepth 20000 in
theorem B_L_law_1010 {x3 y0 y1 : Int} {M : Mm} {Q : Mm → Option Mv → Prop} (hX : gI M 1000 (-1) ≤ 384) (H : ((y1 = y0 → ((-2147483648 ≤ x3 + 6 ∧ x3 + 6 < 2147483648) ∧ Wq 56 0 0 mL_law 18 [iR 1000, iR 0, iR 80, iI (x3 + 6)] [] M Q)) ∧ (¬ y1 = y0 → Q M (some (vI 0))))) : Wq 56 0 0 mL_law 1010 [iR 1000, iR 0, iR 80, iI x3] [vI y0, vI y1] M Q := by
  refine wq_icmp_eq (pc := 1010) (tgt := 1490) dL_law_1010 (by decide) (fun c1 => ?_) (fun c1 => ?_)
  · have H := H.1 c1
    obtain ⟨s2, H⟩ := H
    refine wq_iinc (pc := 1490) (lo' := [iR 1000, iR 0, iR 80, iI (x3 + 6)]) dL_law_1490 rfl rfl (by rw [show wr (x3 + 6) = x3 + 6 from (Eq.trans (wr_eq (by omega) (by omega)) (by omega))]; rfl) ?_
    refine wq_goto (pc := 1493) (tgt := 18) dL_law_1493 (by decide) ?_
    exact H
  · have H := H.2 c1
    refine wq_iconst (pc := 1013) dL_law_1013 rfl ?_
    refine wq_ireturn (pc := 1014) dL_law_1014 (Or.inl rfl) ?_
    exact H

set_option maxRecDepth 20000 in
theorem B_L_law_1029 {x3 y0 : Int} {M : Mm} {Q : Mm → Option Mv → Prop} (hX : gI M 1000 (-1) ≤ 384) (H : (((0 ≤ x3 + 1 ∧ x3 + 1 < gI M 1000 (-1)) ∧ (0 ≤ x3 + 2 ∧ x3 + 2 < gI M 1000 (-1))) ∧ Wq 3 0 0 mM_force 0 [iR 80, iI (gI M 1000 (x3 + 1)), iI (gI M 1000 (x3 + 2)), none] [] M (fun M' v => Wq 56 0 0 mL_law 1043 [iR 1000, iR 0, iR 80, iI x3] (v.toList ++ [vI y0]) M' Q))) : Wq 56 0 0 mL_law 1029 [iR 1000, iR 0, iR 80, iI x3] [vI y0] M Q := by
  obtain ⟨⟨s1, s2⟩, H⟩ := H
  refine wq_aload_n (pc := 1029) dL_law_1029 rfl rfl ?_
  refine wq_aload_n (pc := 1030) dL_law_1030 rfl rfl ?_
  refine wq_iload_n (pc := 1031) dL_law_1031 rfl rfl ?_
  refine wq_iconst (pc := 1032) dL_law_1032 rfl ?_
  refine wq_iadd (pc := 1033) dL_law_1033 ?_
  refine wq_re (x := (wr (x3 + 1))) (y := (x3 + 1)) (Eq.trans (wr_eq (by omega) (by omega)) (by omega)) ?_
  refine wq_sld (pc := 1034) dL_law_1034 s1.1 s1.2 ?_
  refine wq_aload_n (pc := 1035) dL_law_1035 rfl rfl ?_
  refine wq_iload_n (pc := 1036) dL_law_1036 rfl rfl ?_
  refine wq_iconst (pc := 1037) dL_law_1037 rfl ?_
  refine wq_iadd (pc := 1038) dL_law_1038 ?_
  refine wq_re (x := (wr (x3 + 2))) (y := (x3 + 2)) (Eq.trans (wr_eq (by omega) (by omega)) (by omega)) ?_
  refine wq_sld (pc := 1039) dL_law_1039 s2.1 s2.2 ?_
  refine wq_callV (d' := 3) (pc := 1040) (as := [vI (gI M 1000 (x3 + 1)), vI (gI M 1000 (x3 + 2))]) (rest := [vI y0]) (lo' := [iR 80, iI (gI M 1000 (x3 + 1)), iI (gI M 1000 (x3 + 2)), none]) dL_law_1040 mO_M_force lV_L_116 sh_80 (by decide) cl_11 rfl rfl rfl rfl rfl rfl ?_
  exact H

set_option maxRecDepth 20000 in
theorem B_L_law_1043 {x3 y0 y1 : Int} {M : Mm} {Q : Mm → Option Mv → Prop} (hX : gI M 1000 (-1) ≤ 384) (H : ((y1 = y0 → ((-2147483648 ≤ x3 + 6 ∧ x3 + 6 < 2147483648) ∧ Wq 56 0 0 mL_law 18 [iR 1000, iR 0, iR 80, iI (x3 + 6)] [] M Q)) ∧ (¬ y1 = y0 → Q M (some (vI 0))))) : Wq 56 0 0 mL_law 1043 [iR 1000, iR 0, iR 80, iI x3] [vI y0, vI y1] M Q := by
  refine wq_icmp_eq (pc := 1043) (tgt := 1490) dL_law_1043 (by decide) (fun c1 => ?_) (fun c1 => ?_)
  · have H := H.1 c1
    obtain ⟨s2, H⟩ := H
    refine wq_iinc (pc := 1490) (lo' := [iR 1000, iR 0, iR 80, iI (x3 + 6)]) dL_law_1490 rfl rfl (by rw [show wr (x3 + 6) = x3 + 6 from (Eq.trans (wr_eq (by omega) (by omega)) (by omega))]; rfl) ?_
    refine wq_goto (pc := 1493) (tgt := 18) dL_law_1493 (by decide) ?_
    exact H
  · have H := H.2 c1
    refine wq_iconst (pc := 1046) dL_law_1046 rfl ?_
    refine wq_ireturn (pc := 1047) dL_law_1047 (Or.inl rfl) ?_
    exact H

set_option maxRecDepth 20000 in
theorem B_L_law_1057 {x3 y0 : Int} {M : Mm} {Q : Mm → Option Mv → Prop} (hX : gI M 1000 (-1) ≤ 384) (H : ((0 ≤ x3 + 1 ∧ x3 + 1 < gI M 1000 (-1)) ∧ Wq 13 0 0 mM_claim 0 [iR 80, iI (gI M 1000 (x3 + 1)), none, none, none, none] [] M (fun M' v => Wq 56 0 0 mL_law 1066 [iR 1000, iR 0, iR 80, iI x3] (v.toList ++ [vI y0]) M' Q))) : Wq 56 0 0 mL_law 1057 [iR 1000, iR 0, iR 80, iI x3] [vI y0] M Q := by
  obtain ⟨s1, H⟩ := H
  refine wq_aload_n (pc := 1057) dL_law_1057 rfl rfl ?_
  refine wq_aload_n (pc := 1058) dL_law_1058 rfl rfl ?_
  refine wq_iload_n (pc := 1059) dL_law_1059 rfl rfl ?_
  refine wq_iconst (pc := 1060) dL_law_1060 rfl ?_
  refine wq_iadd (pc := 1061) dL_law_1061 ?_
  refine wq_re (x := (wr (x3 + 1))) (y := (x3 + 1)) (Eq.trans (wr_eq (by omega) (by omega)) (by omega)) ?_
  refine wq_sld (pc := 1062) dL_law_1062 s1.1 s1.2 ?_
  refine wq_callV (d' := 13) (pc := 1063) (as := [vI (gI M 1000 (x3 + 1))]) (rest := [vI y0]) (lo' := [iR 80, iI (gI M 1000 (x3 + 1)), none, none, none, none]) dL_law_1063 mO_M_claim lV_L_120 sh_80 (by decide) cl_11 rfl rfl rfl rfl rfl rfl ?_
  exact H

set_option maxRecDepth 20000 in
theorem B_L_law_1066 {x3 y0 y1 : Int} {M : Mm} {Q : Mm → Option Mv → Prop} (hX : gI M 1000 (-1) ≤ 384) (H : ((y1 = y0 → ((-2147483648 ≤ x3 + 6 ∧ x3 + 6 < 2147483648) ∧ Wq 56 0 0 mL_law 18 [iR 1000, iR 0, iR 80, iI (x3 + 6)] [] M Q)) ∧ (¬ y1 = y0 → Q M (some (vI 0))))) : Wq 56 0 0 mL_law 1066 [iR 1000, iR 0, iR 80, iI x3] [vI y0, vI y1] M Q := by
  refine wq_icmp_eq (pc := 1066) (tgt := 1490) dL_law_1066 (by decide) (fun c1 => ?_) (fun c1 => ?_)
  · have H := H.1 c1
    obtain ⟨s2, H⟩ := H
    refine wq_iinc (pc := 1490) (lo' := [iR 1000, iR 0, iR 80, iI (x3 + 6)]) dL_law_1490 rfl rfl (by rw [show wr (x3 + 6) = x3 + 6 from (Eq.trans (wr_eq (by omega) (by omega)) (by omega))]; rfl) ?_
    refine wq_goto (pc := 1493) (tgt := 18) dL_law_1493 (by decide) ?_
    exact H
  · have H := H.2 c1
    refine wq_iconst (pc := 1069) dL_law_1069 rfl ?_
    refine wq_ireturn (pc := 1070) dL_law_1070 (Or.inl rfl) ?_
    exact H

set_option maxRecDepth 20000 in
theorem B_L_law_1090 {x3 y0 : Int} {M : Mm} {Q : Mm → Option Mv → Prop} (hX : gI M 1000 (-1) ≤ 384) (H : (((0 ≤ x3 + 1 ∧ x3 + 1 < gI M 1000 (-1)) ∧ (0 ≤ x3 + 2 ∧ x3 + 2 < gI M 1000 (-1)) ∧ (0 ≤ x3 + 3 ∧ x3 + 3 < gI M 1000 (-1))) ∧ Wq 3 0 0 mM_hurry 0 [iR 80, iI (gI M 1000 (x3 + 1)), iI (gI M 1000 (x3 + 2)), iI (gI M 1000 (x3 + 3)), none] [] M (fun M' v => Wq 56 0 0 mL_law 1109 [iR 1000, iR 0, iR 80, iI x3] (v.toList ++ [vI y0]) M' Q))) : Wq 56 0 0 mL_law 1090 [iR 1000, iR 0, iR 80, iI x3] [vI y0] M Q := by
  obtain ⟨⟨s1, s2, s3⟩, H⟩ := H
  refine wq_aload_n (pc := 1090) dL_law_1090 rfl rfl ?_
  refine wq_aload_n (pc := 1091) dL_law_1091 rfl rfl ?_
  refine wq_iload_n (pc := 1092) dL_law_1092 rfl rfl ?_
  refine wq_iconst (pc := 1093) dL_law_1093 rfl ?_
  refine wq_iadd (pc := 1094) dL_law_1094 ?_
  refine wq_re (x := (wr (x3 + 1))) (y := (x3 + 1)) (Eq.trans (wr_eq (by omega) (by omega)) (by omega)) ?_
  refine wq_sld (pc := 1095) dL_law_1095 s1.1 s1.2 ?_
  refine wq_aload_n (pc := 1096) dL_law_1096 rfl rfl ?_
  refine wq_iload_n (pc := 1097) dL_law_1097 rfl rfl ?_
  refine wq_iconst (pc := 1098) dL_law_1098 rfl ?_
  refine wq_iadd (pc := 1099) dL_law_1099 ?_
  refine wq_re (x := (wr (x3 + 2))) (y := (x3 + 2)) (Eq.trans (wr_eq (by omega) (by omega)) (by omega)) ?_
  refine wq_sld (pc := 1100) dL_law_1100 s2.1 s2.2 ?_
  refine wq_aload_n (pc := 1101) dL_law_1101 rfl rfl ?_
  refine wq_iload_n (pc := 1102) dL_law_1102 rfl rfl ?_
  refine wq_iconst (pc := 1103) dL_law_1103 rfl ?_
  refine wq_iadd (pc := 1104) dL_law_1104 ?_
  refine wq_re (x := (wr (x3 + 3))) (y := (x3 + 3)) (Eq.trans (wr_eq (by omega) (by omega)) (by omega)) ?_
  refine wq_sld (pc := 1105) dL_law_1105 s3.1 s3.2 ?_
  refine wq_callV (d' := 3) (pc := 1106) (as := [vI (gI M 1000 (x3 + 1)), vI (gI M 1000 (x3 + 2)), vI (gI M 1000 (x3 + 3))]) (rest := [vI y0]) (lo' := [iR 80, iI (gI M 1000 (x3 + 1)), iI (gI M 1000 (x3 + 2)), iI (gI M 1000 (x3 + 3)), none]) dL_law_1106 mO_M_hurry lV_L_124 sh_80 (by decide) cl_11 rfl rfl rfl rfl rfl rfl ?_
  exact H

set_option maxRecDepth 20000 in
theorem B_L_law_1109 {x3 y0 y1 : Int} {M : Mm} {Q : Mm → Option Mv → Prop} (hX : gI M 1000 (-1) ≤ 384) (H : ((y1 = y0 → ((-2147483648 ≤ x3 + 6 ∧ x3 + 6 < 2147483648) ∧ Wq 56 0 0 mL_law 18 [iR 1000, iR 0, iR 80, iI (x3 + 6)] [] M Q)) ∧ (¬ y1 = y0 → Q M (some (vI 0))))) : Wq 56 0 0 mL_law 1109 [iR 1000, iR 0, iR 80, iI x3] [vI y0, vI y1] M Q := by
  refine wq_icmp_eq (pc := 1109) (tgt := 1490) dL_law_1109 (by decide) (fun c1 => ?_) (fun c1 => ?_)
  · have H := H.1 c1
    obtain ⟨s2, H⟩ := H
    refine wq_iinc (pc := 1490) (lo' := [iR 1000, iR 0, iR 80, iI (x3 + 6)]) dL_law_1490 rfl rfl (by rw [show wr (x3 + 6) = x3 + 6 from (Eq.trans (wr_eq (by omega) (by omega)) (by omega))]; rfl) ?_
    refine wq_goto (pc := 1493) (tgt := 18) dL_law_1493 (by decide) ?_
    exact H
  · have H := H.2 c1
    refine wq_iconst (pc := 1112) dL_law_1112 rfl ?_
    refine wq_ireturn (pc := 1113) dL_law_1113 (Or.inl rfl) ?_
    exact H

set_option maxRecDepth 20000 in
theorem B_L_law_1118 {x3 y0 : Int} {M : Mm} {Q : Mm → Option Mv → Prop} (hX : gI M 1000 (-1) ≤ 384) (H : Wq 1 0 0 mM_calm 0 [iR 80, none] [] M (fun M' v => Wq 56 0 0 mL_law 1122 [iR 1000, iR 0, iR 80, iI x3] (v.toList ++ [vI y0]) M' Q)) : Wq 56 0 0 mL_law 1118 [iR 1000, iR 0, iR 80, iI x3] [vI y0] M Q := by
  refine wq_aload_n (pc := 1118) dL_law_1118 rfl rfl ?_
  refine wq_callV (d' := 1) (pc := 1119) (as := []) (rest := [vI y0]) (lo' := [iR 80, none]) dL_law_1119 mO_M_calm lV_L_129 sh_80 (by decide) cl_11 rfl rfl rfl rfl rfl rfl ?_
  exact H

set_option maxRecDepth 20000 in
theorem B_L_law_1122 {x3 y0 y1 : Int} {M : Mm} {Q : Mm → Option Mv → Prop} (hX : gI M 1000 (-1) ≤ 384) (H : ((y1 = y0 → ((-2147483648 ≤ x3 + 6 ∧ x3 + 6 < 2147483648) ∧ Wq 56 0 0 mL_law 18 [iR 1000, iR 0, iR 80, iI (x3 + 6)] [] M Q)) ∧ (¬ y1 = y0 → Q M (some (vI 0))))) : Wq 56 0 0 mL_law 1122 [iR 1000, iR 0, iR 80, iI x3] [vI y0, vI y1] M Q := by
  refine wq_icmp_eq (pc := 1122) (tgt := 1490) dL_law_1122 (by decide) (fun c1 => ?_) (fun c1 => ?_)
  · have H := H.1 c1
    obtain ⟨s2, H⟩ := H
    refine wq_iinc (pc := 1490) (lo' := [iR 1000, iR 0, iR 80, iI (x3 + 6)]) dL_law_1490 rfl rfl (by rw [show wr (x3 + 6) = x3 + 6 from (Eq.trans (wr_eq (by omega) (by omega)) (by omega))]; rfl) ?_
    refine wq_goto (pc := 1493) (tgt := 18) dL_law_1493 (by decide) ?_
    exact H
  · have H := H.2 c1
    refine wq_iconst (pc := 1125) dL_law_1125 rfl ?_
    refine wq_ireturn (pc := 1126) dL_law_1126 (Or.inl rfl) ?_
    exact H

set_option maxRecDepth 20000 in
theorem B_L_law_1141 {x3 y0 : Int} {M : Mm} {Q : Mm → Option Mv → Prop} (hX : gI M 1000 (-1) ≤ 384) (H : (((0 ≤ x3 + 1 ∧ x3 + 1 < gI M 1000 (-1)) ∧ (0 ≤ x3 + 2 ∧ x3 + 2 < gI M 1000 (-1))) ∧ Wq 7 0 0 mM_least 0 [iR 80, iI (gI M 1000 (x3 + 1)), iI (gI M 1000 (x3 + 2)), none] [] M (fun M' v => Wq 56 0 0 mL_law 1155 [iR 1000, iR 0, iR 80, iI x3] (v.toList ++ [vI y0]) M' Q))) : Wq 56 0 0 mL_law 1141 [iR 1000, iR 0, iR 80, iI x3] [vI y0] M Q := by
  obtain ⟨⟨s1, s2⟩, H⟩ := H
  refine wq_aload_n (pc := 1141) dL_law_1141 rfl rfl ?_
  refine wq_aload_n (pc := 1142) dL_law_1142 rfl rfl ?_
  refine wq_iload_n (pc := 1143) dL_law_1143 rfl rfl ?_
  refine wq_iconst (pc := 1144) dL_law_1144 rfl ?_
  refine wq_iadd (pc := 1145) dL_law_1145 ?_
  refine wq_re (x := (wr (x3 + 1))) (y := (x3 + 1)) (Eq.trans (wr_eq (by omega) (by omega)) (by omega)) ?_
  refine wq_sld (pc := 1146) dL_law_1146 s1.1 s1.2 ?_
  refine wq_aload_n (pc := 1147) dL_law_1147 rfl rfl ?_
  refine wq_iload_n (pc := 1148) dL_law_1148 rfl rfl ?_
  refine wq_iconst (pc := 1149) dL_law_1149 rfl ?_
  refine wq_iadd (pc := 1150) dL_law_1150 ?_
  refine wq_re (x := (wr (x3 + 2))) (y := (x3 + 2)) (Eq.trans (wr_eq (by omega) (by omega)) (by omega)) ?_
  refine wq_sld (pc := 1151) dL_law_1151 s2.1 s2.2 ?_
  refine wq_callV (d' := 7) (pc := 1152) (as := [vI (gI M 1000 (x3 + 1)), vI (gI M 1000 (x3 + 2))]) (rest := [vI y0]) (lo' := [iR 80, iI (gI M 1000 (x3 + 1)), iI (gI M 1000 (x3 + 2)), none]) dL_law_1152 mO_M_least lV_L_133 sh_80 (by decide) cl_11 rfl rfl rfl rfl rfl rfl ?_
  exact H

set_option maxRecDepth 20000 in
theorem B_L_law_1155 {x3 y0 y1 : Int} {M : Mm} {Q : Mm → Option Mv → Prop} (hX : gI M 1000 (-1) ≤ 384) (H : ((y1 = y0 → ((-2147483648 ≤ x3 + 6 ∧ x3 + 6 < 2147483648) ∧ Wq 56 0 0 mL_law 18 [iR 1000, iR 0, iR 80, iI (x3 + 6)] [] M Q)) ∧ (¬ y1 = y0 → Q M (some (vI 0))))) : Wq 56 0 0 mL_law 1155 [iR 1000, iR 0, iR 80, iI x3] [vI y0, vI y1] M Q := by
  refine wq_icmp_eq (pc := 1155) (tgt := 1490) dL_law_1155 (by decide) (fun c1 => ?_) (fun c1 => ?_)
  · have H := H.1 c1
    obtain ⟨s2, H⟩ := H
    refine wq_iinc (pc := 1490) (lo' := [iR 1000, iR 0, iR 80, iI (x3 + 6)]) dL_law_1490 rfl rfl (by rw [show wr (x3 + 6) = x3 + 6 from (Eq.trans (wr_eq (by omega) (by omega)) (by omega))]; rfl) ?_
    refine wq_goto (pc := 1493) (tgt := 18) dL_law_1493 (by decide) ?_
    exact H
  · have H := H.2 c1
    refine wq_iconst (pc := 1158) dL_law_1158 rfl ?_
    refine wq_ireturn (pc := 1159) dL_law_1159 (Or.inl rfl) ?_
    exact H

set_option maxRecDepth 20000 in
theorem B_L_law_1179 {x3 y0 : Int} {M : Mm} {Q : Mm → Option Mv → Prop} (hX : gI M 1000 (-1) ≤ 384) (H : (((0 ≤ x3 + 1 ∧ x3 + 1 < gI M 1000 (-1)) ∧ (0 ≤ x3 + 2 ∧ x3 + 2 < gI M 1000 (-1)) ∧ (0 ≤ x3 + 3 ∧ x3 + 3 < gI M 1000 (-1))) ∧ Wq 6 0 0 mM_proves 0 [iR 80, iI (gI M 1000 (x3 + 1)), iI (gI M 1000 (x3 + 2)), iI (gI M 1000 (x3 + 3)), none] [] M (fun M' v => Wq 56 0 0 mL_law 1198 [iR 1000, iR 0, iR 80, iI x3] (v.toList ++ [vI y0]) M' Q))) : Wq 56 0 0 mL_law 1179 [iR 1000, iR 0, iR 80, iI x3] [vI y0] M Q := by
  obtain ⟨⟨s1, s2, s3⟩, H⟩ := H
  refine wq_aload_n (pc := 1179) dL_law_1179 rfl rfl ?_
  refine wq_aload_n (pc := 1180) dL_law_1180 rfl rfl ?_
  refine wq_iload_n (pc := 1181) dL_law_1181 rfl rfl ?_
  refine wq_iconst (pc := 1182) dL_law_1182 rfl ?_
  refine wq_iadd (pc := 1183) dL_law_1183 ?_
  refine wq_re (x := (wr (x3 + 1))) (y := (x3 + 1)) (Eq.trans (wr_eq (by omega) (by omega)) (by omega)) ?_
  refine wq_sld (pc := 1184) dL_law_1184 s1.1 s1.2 ?_
  refine wq_aload_n (pc := 1185) dL_law_1185 rfl rfl ?_
  refine wq_iload_n (pc := 1186) dL_law_1186 rfl rfl ?_
  refine wq_iconst (pc := 1187) dL_law_1187 rfl ?_
  refine wq_iadd (pc := 1188) dL_law_1188 ?_
  refine wq_re (x := (wr (x3 + 2))) (y := (x3 + 2)) (Eq.trans (wr_eq (by omega) (by omega)) (by omega)) ?_
  refine wq_sld (pc := 1189) dL_law_1189 s2.1 s2.2 ?_
  refine wq_aload_n (pc := 1190) dL_law_1190 rfl rfl ?_
  refine wq_iload_n (pc := 1191) dL_law_1191 rfl rfl ?_
  refine wq_iconst (pc := 1192) dL_law_1192 rfl ?_
  refine wq_iadd (pc := 1193) dL_law_1193 ?_
  refine wq_re (x := (wr (x3 + 3))) (y := (x3 + 3)) (Eq.trans (wr_eq (by omega) (by omega)) (by omega)) ?_
  refine wq_sld (pc := 1194) dL_law_1194 s3.1 s3.2 ?_
  refine wq_callV (d' := 6) (pc := 1195) (as := [vI (gI M 1000 (x3 + 1)), vI (gI M 1000 (x3 + 2)), vI (gI M 1000 (x3 + 3))]) (rest := [vI y0]) (lo' := [iR 80, iI (gI M 1000 (x3 + 1)), iI (gI M 1000 (x3 + 2)), iI (gI M 1000 (x3 + 3)), none]) dL_law_1195 mO_M_proves lV_L_137 sh_80 (by decide) cl_11 rfl rfl rfl rfl rfl rfl ?_
  exact H

set_option maxRecDepth 20000 in
theorem B_L_law_1198 {x3 y0 y1 : Int} {M : Mm} {Q : Mm → Option Mv → Prop} (hX : gI M 1000 (-1) ≤ 384) (H : ((y1 = y0 → ((-2147483648 ≤ x3 + 6 ∧ x3 + 6 < 2147483648) ∧ Wq 56 0 0 mL_law 18 [iR 1000, iR 0, iR 80, iI (x3 + 6)] [] M Q)) ∧ (¬ y1 = y0 → Q M (some (vI 0))))) : Wq 56 0 0 mL_law 1198 [iR 1000, iR 0, iR 80, iI x3] [vI y0, vI y1] M Q := by
  refine wq_icmp_eq (pc := 1198) (tgt := 1490) dL_law_1198 (by decide) (fun c1 => ?_) (fun c1 => ?_)
  · have H := H.1 c1
    obtain ⟨s2, H⟩ := H
    refine wq_iinc (pc := 1490) (lo' := [iR 1000, iR 0, iR 80, iI (x3 + 6)]) dL_law_1490 rfl rfl (by rw [show wr (x3 + 6) = x3 + 6 from (Eq.trans (wr_eq (by omega) (by omega)) (by omega))]; rfl) ?_
    refine wq_goto (pc := 1493) (tgt := 18) dL_law_1493 (by decide) ?_
    exact H
  · have H := H.2 c1
    refine wq_iconst (pc := 1201) dL_law_1201 rfl ?_
    refine wq_ireturn (pc := 1202) dL_law_1202 (Or.inl rfl) ?_
    exact H

set_option maxRecDepth 20000 in
theorem B_L_law_1222 {x3 y0 : Int} {M : Mm} {Q : Mm → Option Mv → Prop} (hX : gI M 1000 (-1) ≤ 384) (H : (((0 ≤ x3 + 1 ∧ x3 + 1 < gI M 1000 (-1)) ∧ (0 ≤ x3 + 2 ∧ x3 + 2 < gI M 1000 (-1)) ∧ (0 ≤ x3 + 3 ∧ x3 + 3 < gI M 1000 (-1))) ∧ Wq 51 0 0 mM_voice 0 [iR 80, iI (gI M 1000 (x3 + 1)), iI (gI M 1000 (x3 + 2)), iI (gI M 1000 (x3 + 3))] [] M (fun M' v => Wq 56 0 0 mL_law 1241 [iR 1000, iR 0, iR 80, iI x3] (v.toList ++ [vI y0]) M' Q))) : Wq 56 0 0 mL_law 1222 [iR 1000, iR 0, iR 80, iI x3] [vI y0] M Q := by
  obtain ⟨⟨s1, s2, s3⟩, H⟩ := H
  refine wq_aload_n (pc := 1222) dL_law_1222 rfl rfl ?_
  refine wq_aload_n (pc := 1223) dL_law_1223 rfl rfl ?_
  refine wq_iload_n (pc := 1224) dL_law_1224 rfl rfl ?_
  refine wq_iconst (pc := 1225) dL_law_1225 rfl ?_
  refine wq_iadd (pc := 1226) dL_law_1226 ?_
  refine wq_re (x := (wr (x3 + 1))) (y := (x3 + 1)) (Eq.trans (wr_eq (by omega) (by omega)) (by omega)) ?_
  refine wq_sld (pc := 1227) dL_law_1227 s1.1 s1.2 ?_
  refine wq_aload_n (pc := 1228) dL_law_1228 rfl rfl ?_
  refine wq_iload_n (pc := 1229) dL_law_1229 rfl rfl ?_
  refine wq_iconst (pc := 1230) dL_law_1230 rfl ?_
  refine wq_iadd (pc := 1231) dL_law_1231 ?_
  refine wq_re (x := (wr (x3 + 2))) (y := (x3 + 2)) (Eq.trans (wr_eq (by omega) (by omega)) (by omega)) ?_
  refine wq_sld (pc := 1232) dL_law_1232 s2.1 s2.2 ?_
  refine wq_aload_n (pc := 1233) dL_law_1233 rfl rfl ?_
  refine wq_iload_n (pc := 1234) dL_law_1234 rfl rfl ?_
  refine wq_iconst (pc := 1235) dL_law_1235 rfl ?_
  refine wq_iadd (pc := 1236) dL_law_1236 ?_
  refine wq_re (x := (wr (x3 + 3))) (y := (x3 + 3)) (Eq.trans (wr_eq (by omega) (by omega)) (by omega)) ?_
  refine wq_sld (pc := 1237) dL_law_1237 s3.1 s3.2 ?_
  refine wq_callV (d' := 51) (pc := 1238) (as := [vI (gI M 1000 (x3 + 1)), vI (gI M 1000 (x3 + 2)), vI (gI M 1000 (x3 + 3))]) (rest := [vI y0]) (lo' := [iR 80, iI (gI M 1000 (x3 + 1)), iI (gI M 1000 (x3 + 2)), iI (gI M 1000 (x3 + 3))]) dL_law_1238 mO_M_voice lV_L_141 sh_80 (by decide) cl_11 rfl rfl rfl rfl rfl rfl ?_
  exact H

set_option maxRecDepth 20000 in
theorem B_L_law_1241 {x3 y0 y1 : Int} {M : Mm} {Q : Mm → Option Mv → Prop} (hX : gI M 1000 (-1) ≤ 384) (H : ((y1 = y0 → ((-2147483648 ≤ x3 + 6 ∧ x3 + 6 < 2147483648) ∧ Wq 56 0 0 mL_law 18 [iR 1000, iR 0, iR 80, iI (x3 + 6)] [] M Q)) ∧ (¬ y1 = y0 → Q M (some (vI 0))))) : Wq 56 0 0 mL_law 1241 [iR 1000, iR 0, iR 80, iI x3] [vI y0, vI y1] M Q := by
  refine wq_icmp_eq (pc := 1241) (tgt := 1490) dL_law_1241 (by decide) (fun c1 => ?_) (fun c1 => ?_)
  · have H := H.1 c1
    obtain ⟨s2, H⟩ := H
    refine wq_iinc (pc := 1490) (lo' := [iR 1000, iR 0, iR 80, iI (x3 + 6)]) dL_law_1490 rfl rfl (by rw [show wr (x3 + 6) = x3 + 6 from (Eq.trans (wr_eq (by omega) (by omega)) (by omega))]; rfl) ?_
    refine wq_goto (pc := 1493) (tgt := 18) dL_law_1493 (by decide) ?_
    exact H
  · have H := H.2 c1
    refine wq_iconst (pc := 1244) dL_law_1244 rfl ?_
    refine wq_ireturn (pc := 1245) dL_law_1245 (Or.inl rfl) ?_
    exact H

set_option maxRecDepth 20000 in
theorem B_L_law_1255 {x3 y0 : Int} {M : Mm} {Q : Mm → Option Mv → Prop} (hX : gI M 1000 (-1) ≤ 384) (H : ((0 ≤ x3 + 1 ∧ x3 + 1 < gI M 1000 (-1)) ∧ Wq 2 0 0 mM_trace 0 [iR 80, iI (gI M 1000 (x3 + 1))] [] M (fun M' v => Wq 56 0 0 mL_law 1264 [iR 1000, iR 0, iR 80, iI x3] (v.toList ++ [vI y0]) M' Q))) : Wq 56 0 0 mL_law 1255 [iR 1000, iR 0, iR 80, iI x3] [vI y0] M Q := by
  obtain ⟨s1, H⟩ := H
  refine wq_aload_n (pc := 1255) dL_law_1255 rfl rfl ?_
  refine wq_aload_n (pc := 1256) dL_law_1256 rfl rfl ?_
  refine wq_iload_n (pc := 1257) dL_law_1257 rfl rfl ?_
  refine wq_iconst (pc := 1258) dL_law_1258 rfl ?_
  refine wq_iadd (pc := 1259) dL_law_1259 ?_
  refine wq_re (x := (wr (x3 + 1))) (y := (x3 + 1)) (Eq.trans (wr_eq (by omega) (by omega)) (by omega)) ?_
  refine wq_sld (pc := 1260) dL_law_1260 s1.1 s1.2 ?_
  refine wq_callV (d' := 2) (pc := 1261) (as := [vI (gI M 1000 (x3 + 1))]) (rest := [vI y0]) (lo' := [iR 80, iI (gI M 1000 (x3 + 1))]) dL_law_1261 mO_M_trace lV_L_145 sh_80 (by decide) cl_11 rfl rfl rfl rfl rfl rfl ?_
  exact H

set_option maxRecDepth 20000 in
theorem B_L_law_1264 {x3 y0 y1 : Int} {M : Mm} {Q : Mm → Option Mv → Prop} (hX : gI M 1000 (-1) ≤ 384) (H : ((y1 = y0 → ((-2147483648 ≤ x3 + 6 ∧ x3 + 6 < 2147483648) ∧ Wq 56 0 0 mL_law 18 [iR 1000, iR 0, iR 80, iI (x3 + 6)] [] M Q)) ∧ (¬ y1 = y0 → Q M (some (vI 0))))) : Wq 56 0 0 mL_law 1264 [iR 1000, iR 0, iR 80, iI x3] [vI y0, vI y1] M Q := by
  refine wq_icmp_eq (pc := 1264) (tgt := 1490) dL_law_1264 (by decide) (fun c1 => ?_) (fun c1 => ?_)
  · have H := H.1 c1
    obtain ⟨s2, H⟩ := H
    refine wq_iinc (pc := 1490) (lo' := [iR 1000, iR 0, iR 80, iI (x3 + 6)]) dL_law_1490 rfl rfl (by rw [show wr (x3 + 6) = x3 + 6 from (Eq.trans (wr_eq (by omega) (by omega)) (by omega))]; rfl) ?_
    refine wq_goto (pc := 1493) (tgt := 18) dL_law_1493 (by decide) ?_
    exact H
  · have H := H.2 c1
    refine wq_iconst (pc := 1267) dL_law_1267 rfl ?_
    refine wq_ireturn (pc := 1268) dL_law_1268 (Or.inl rfl) ?_
    exact H

set_option maxRecDepth 20000 in
theorem B_L_law_1288 {x3 y0 : Int} {M : Mm} {Q : Mm → Option Mv → Prop} (hX : gI M 1000 (-1) ≤ 384) (H : (((0 ≤ x3 + 1 ∧ x3 + 1 < gI M 1000 (-1)) ∧ (0 ≤ x3 + 2 ∧ x3 + 2 < gI M 1000 (-1)) ∧ (0 ≤ x3 + 3 ∧ x3 + 3 < gI M 1000 (-1))) ∧ Wq 3 0 0 mM_sheet 0 [iR 80, iI (gI M 1000 (x3 + 1)), iI (gI M 1000 (x3 + 2)), iI (gI M 1000 (x3 + 3)), none] [] M (fun M' v => Wq 56 0 0 mL_law 1307 [iR 1000, iR 0, iR 80, iI x3] (v.toList ++ [vI y0]) M' Q))) : Wq 56 0 0 mL_law 1288 [iR 1000, iR 0, iR 80, iI x3] [vI y0] M Q := by
  obtain ⟨⟨s1, s2, s3⟩, H⟩ := H
  refine wq_aload_n (pc := 1288) dL_law_1288 rfl rfl ?_
  refine wq_aload_n (pc := 1289) dL_law_1289 rfl rfl ?_
  refine wq_iload_n (pc := 1290) dL_law_1290 rfl rfl ?_
  refine wq_iconst (pc := 1291) dL_law_1291 rfl ?_
  refine wq_iadd (pc := 1292) dL_law_1292 ?_
  refine wq_re (x := (wr (x3 + 1))) (y := (x3 + 1)) (Eq.trans (wr_eq (by omega) (by omega)) (by omega)) ?_
  refine wq_sld (pc := 1293) dL_law_1293 s1.1 s1.2 ?_
  refine wq_aload_n (pc := 1294) dL_law_1294 rfl rfl ?_
  refine wq_iload_n (pc := 1295) dL_law_1295 rfl rfl ?_
  refine wq_iconst (pc := 1296) dL_law_1296 rfl ?_
  refine wq_iadd (pc := 1297) dL_law_1297 ?_
  refine wq_re (x := (wr (x3 + 2))) (y := (x3 + 2)) (Eq.trans (wr_eq (by omega) (by omega)) (by omega)) ?_
  refine wq_sld (pc := 1298) dL_law_1298 s2.1 s2.2 ?_
  refine wq_aload_n (pc := 1299) dL_law_1299 rfl rfl ?_
  refine wq_iload_n (pc := 1300) dL_law_1300 rfl rfl ?_
  refine wq_iconst (pc := 1301) dL_law_1301 rfl ?_
  refine wq_iadd (pc := 1302) dL_law_1302 ?_
  refine wq_re (x := (wr (x3 + 3))) (y := (x3 + 3)) (Eq.trans (wr_eq (by omega) (by omega)) (by omega)) ?_
  refine wq_sld (pc := 1303) dL_law_1303 s3.1 s3.2 ?_
  refine wq_callV (d' := 3) (pc := 1304) (as := [vI (gI M 1000 (x3 + 1)), vI (gI M 1000 (x3 + 2)), vI (gI M 1000 (x3 + 3))]) (rest := [vI y0]) (lo' := [iR 80, iI (gI M 1000 (x3 + 1)), iI (gI M 1000 (x3 + 2)), iI (gI M 1000 (x3 + 3)), none]) dL_law_1304 mO_M_sheet lV_L_149 sh_80 (by decide) cl_11 rfl rfl rfl rfl rfl rfl ?_
  exact H

set_option maxRecDepth 20000 in
theorem B_L_law_1307 {x3 y0 y1 : Int} {M : Mm} {Q : Mm → Option Mv → Prop} (hX : gI M 1000 (-1) ≤ 384) (H : ((y1 = y0 → ((-2147483648 ≤ x3 + 6 ∧ x3 + 6 < 2147483648) ∧ Wq 56 0 0 mL_law 18 [iR 1000, iR 0, iR 80, iI (x3 + 6)] [] M Q)) ∧ (¬ y1 = y0 → Q M (some (vI 0))))) : Wq 56 0 0 mL_law 1307 [iR 1000, iR 0, iR 80, iI x3] [vI y0, vI y1] M Q := by
  refine wq_icmp_eq (pc := 1307) (tgt := 1490) dL_law_1307 (by decide) (fun c1 => ?_) (fun c1 => ?_)
  · have H := H.1 c1
    obtain ⟨s2, H⟩ := H
    refine wq_iinc (pc := 1490) (lo' := [iR 1000, iR 0, iR 80, iI (x3 + 6)]) dL_law_1490 rfl rfl (by rw [show wr (x3 + 6) = x3 + 6 from (Eq.trans (wr_eq (by omega) (by omega)) (by omega))]; rfl) ?_
    refine wq_goto (pc := 1493) (tgt := 18) dL_law_1493 (by decide) ?_
    exact H
  · have H := H.2 c1
    refine wq_iconst (pc := 1310) dL_law_1310 rfl ?_
    refine wq_ireturn (pc := 1311) dL_law_1311 (Or.inl rfl) ?_
    exact H

set_option maxRecDepth 20000 in
theorem B_L_law_1331 {x3 y0 : Int} {M : Mm} {Q : Mm → Option Mv → Prop} (hX : gI M 1000 (-1) ≤ 384) (H : (((0 ≤ x3 + 1 ∧ x3 + 1 < gI M 1000 (-1)) ∧ (0 ≤ x3 + 2 ∧ x3 + 2 < gI M 1000 (-1)) ∧ (0 ≤ x3 + 3 ∧ x3 + 3 < gI M 1000 (-1))) ∧ Wq 3 0 0 mM_put3 0 [iR 80, iI (gI M 1000 (x3 + 1)), iI (gI M 1000 (x3 + 2)), iI (gI M 1000 (x3 + 3))] [] M (fun M' v => Wq 56 0 0 mL_law 1350 [iR 1000, iR 0, iR 80, iI x3] (v.toList ++ [vI y0]) M' Q))) : Wq 56 0 0 mL_law 1331 [iR 1000, iR 0, iR 80, iI x3] [vI y0] M Q := by
  obtain ⟨⟨s1, s2, s3⟩, H⟩ := H
  refine wq_aload_n (pc := 1331) dL_law_1331 rfl rfl ?_
  refine wq_aload_n (pc := 1332) dL_law_1332 rfl rfl ?_
  refine wq_iload_n (pc := 1333) dL_law_1333 rfl rfl ?_
  refine wq_iconst (pc := 1334) dL_law_1334 rfl ?_
  refine wq_iadd (pc := 1335) dL_law_1335 ?_
  refine wq_re (x := (wr (x3 + 1))) (y := (x3 + 1)) (Eq.trans (wr_eq (by omega) (by omega)) (by omega)) ?_
  refine wq_sld (pc := 1336) dL_law_1336 s1.1 s1.2 ?_
  refine wq_aload_n (pc := 1337) dL_law_1337 rfl rfl ?_
  refine wq_iload_n (pc := 1338) dL_law_1338 rfl rfl ?_
  refine wq_iconst (pc := 1339) dL_law_1339 rfl ?_
  refine wq_iadd (pc := 1340) dL_law_1340 ?_
  refine wq_re (x := (wr (x3 + 2))) (y := (x3 + 2)) (Eq.trans (wr_eq (by omega) (by omega)) (by omega)) ?_
  refine wq_sld (pc := 1341) dL_law_1341 s2.1 s2.2 ?_
  refine wq_aload_n (pc := 1342) dL_law_1342 rfl rfl ?_
  refine wq_iload_n (pc := 1343) dL_law_1343 rfl rfl ?_
  refine wq_iconst (pc := 1344) dL_law_1344 rfl ?_
  refine wq_iadd (pc := 1345) dL_law_1345 ?_
  refine wq_re (x := (wr (x3 + 3))) (y := (x3 + 3)) (Eq.trans (wr_eq (by omega) (by omega)) (by omega)) ?_
  refine wq_sld (pc := 1346) dL_law_1346 s3.1 s3.2 ?_
  refine wq_callV (d' := 3) (pc := 1347) (as := [vI (gI M 1000 (x3 + 1)), vI (gI M 1000 (x3 + 2)), vI (gI M 1000 (x3 + 3))]) (rest := [vI y0]) (lo' := [iR 80, iI (gI M 1000 (x3 + 1)), iI (gI M 1000 (x3 + 2)), iI (gI M 1000 (x3 + 3))]) dL_law_1347 mO_M_put3 lV_L_153 sh_80 (by decide) cl_11 rfl rfl rfl rfl rfl rfl ?_
  exact H

set_option maxRecDepth 20000 in
theorem B_L_law_1350 {x3 y0 y1 : Int} {M : Mm} {Q : Mm → Option Mv → Prop} (hX : gI M 1000 (-1) ≤ 384) (H : ((y1 = y0 → ((-2147483648 ≤ x3 + 6 ∧ x3 + 6 < 2147483648) ∧ Wq 56 0 0 mL_law 18 [iR 1000, iR 0, iR 80, iI (x3 + 6)] [] M Q)) ∧ (¬ y1 = y0 → Q M (some (vI 0))))) : Wq 56 0 0 mL_law 1350 [iR 1000, iR 0, iR 80, iI x3] [vI y0, vI y1] M Q := by
  refine wq_icmp_eq (pc := 1350) (tgt := 1490) dL_law_1350 (by decide) (fun c1 => ?_) (fun c1 => ?_)
  · have H := H.1 c1
    obtain ⟨s2, H⟩ := H
    refine wq_iinc (pc := 1490) (lo' := [iR 1000, iR 0, iR 80, iI (x3 + 6)]) dL_law_1490 rfl rfl (by rw [show wr (x3 + 6) = x3 + 6 from (Eq.trans (wr_eq (by omega) (by omega)) (by omega))]; rfl) ?_
    refine wq_goto (pc := 1493) (tgt := 18) dL_law_1493 (by decide) ?_
    exact H
  · have H := H.2 c1
    refine wq_iconst (pc := 1353) dL_law_1353 rfl ?_
    refine wq_ireturn (pc := 1354) dL_law_1354 (Or.inl rfl) ?_
    exact H

set_option maxRecDepth 20000 in
theorem B_L_law_1384 {x3 y0 : Int} {M : Mm} {Q : Mm → Option Mv → Prop} (hX : gI M 1000 (-1) ≤ 384) (H : (((0 ≤ x3 + 1 ∧ x3 + 1 < gI M 1000 (-1)) ∧ (0 ≤ x3 + 2 ∧ x3 + 2 < gI M 1000 (-1)) ∧ (0 ≤ x3 + 3 ∧ x3 + 3 < gI M 1000 (-1)) ∧ (0 ≤ x3 + 4 ∧ x3 + 4 < gI M 1000 (-1)) ∧ (0 ≤ x3 + 5 ∧ x3 + 5 < gI M 1000 (-1))) ∧ Wq 3 0 0 mM_move 0 [iR 80, iI (gI M 1000 (x3 + 1)), iI (gI M 1000 (x3 + 2)), iI (gI M 1000 (x3 + 3)), iI (gI M 1000 (x3 + 4)), iI (gI M 1000 (x3 + 5)), none] [] M (fun M' v => Wq 56 0 0 mL_law 1413 [iR 1000, iR 0, iR 80, iI x3] (v.toList ++ [vI y0]) M' Q))) : Wq 56 0 0 mL_law 1384 [iR 1000, iR 0, iR 80, iI x3] [vI y0] M Q := by
  obtain ⟨⟨s1, s2, s3, s4, s5⟩, H⟩ := H
  refine wq_aload_n (pc := 1384) dL_law_1384 rfl rfl ?_
  refine wq_aload_n (pc := 1385) dL_law_1385 rfl rfl ?_
  refine wq_iload_n (pc := 1386) dL_law_1386 rfl rfl ?_
  refine wq_iconst (pc := 1387) dL_law_1387 rfl ?_
  refine wq_iadd (pc := 1388) dL_law_1388 ?_
  refine wq_re (x := (wr (x3 + 1))) (y := (x3 + 1)) (Eq.trans (wr_eq (by omega) (by omega)) (by omega)) ?_
  refine wq_sld (pc := 1389) dL_law_1389 s1.1 s1.2 ?_
  refine wq_aload_n (pc := 1390) dL_law_1390 rfl rfl ?_
  refine wq_iload_n (pc := 1391) dL_law_1391 rfl rfl ?_
  refine wq_iconst (pc := 1392) dL_law_1392 rfl ?_
  refine wq_iadd (pc := 1393) dL_law_1393 ?_
  refine wq_re (x := (wr (x3 + 2))) (y := (x3 + 2)) (Eq.trans (wr_eq (by omega) (by omega)) (by omega)) ?_
  refine wq_sld (pc := 1394) dL_law_1394 s2.1 s2.2 ?_
  refine wq_aload_n (pc := 1395) dL_law_1395 rfl rfl ?_
  refine wq_iload_n (pc := 1396) dL_law_1396 rfl rfl ?_
  refine wq_iconst (pc := 1397) dL_law_1397 rfl ?_
  refine wq_iadd (pc := 1398) dL_law_1398 ?_
  refine wq_re (x := (wr (x3 + 3))) (y := (x3 + 3)) (Eq.trans (wr_eq (by omega) (by omega)) (by omega)) ?_
  refine wq_sld (pc := 1399) dL_law_1399 s3.1 s3.2 ?_
  refine wq_aload_n (pc := 1400) dL_law_1400 rfl rfl ?_
  refine wq_iload_n (pc := 1401) dL_law_1401 rfl rfl ?_
  refine wq_iconst (pc := 1402) dL_law_1402 rfl ?_
  refine wq_iadd (pc := 1403) dL_law_1403 ?_
  refine wq_re (x := (wr (x3 + 4))) (y := (x3 + 4)) (Eq.trans (wr_eq (by omega) (by omega)) (by omega)) ?_
  refine wq_sld (pc := 1404) dL_law_1404 s4.1 s4.2 ?_
  refine wq_aload_n (pc := 1405) dL_law_1405 rfl rfl ?_
  refine wq_iload_n (pc := 1406) dL_law_1406 rfl rfl ?_
  refine wq_iconst (pc := 1407) dL_law_1407 rfl ?_
  refine wq_iadd (pc := 1408) dL_law_1408 ?_
  refine wq_re (x := (wr (x3 + 5))) (y := (x3 + 5)) (Eq.trans (wr_eq (by omega) (by omega)) (by omega)) ?_
  refine wq_sld (pc := 1409) dL_law_1409 s5.1 s5.2 ?_
  refine wq_callV (d' := 3) (pc := 1410) (as := [vI (gI M 1000 (x3 + 1)), vI (gI M 1000 (x3 + 2)), vI (gI M 1000 (x3 + 3)), vI (gI M 1000 (x3 + 4)), vI (gI M 1000 (x3 + 5))]) (rest := [vI y0]) (lo' := [iR 80, iI (gI M 1000 (x3 + 1)), iI (gI M 1000 (x3 + 2)), iI (gI M 1000 (x3 + 3)), iI (gI M 1000 (x3 + 4)), iI (gI M 1000 (x3 + 5)), none]) dL_law_1410 mO_M_move lV_L_158 sh_80 (by decide) cl_11 rfl rfl rfl rfl rfl rfl ?_
  exact H

set_option maxRecDepth 20000 in
theorem B_L_law_1413 {x3 y0 y1 : Int} {M : Mm} {Q : Mm → Option Mv → Prop} (hX : gI M 1000 (-1) ≤ 384) (H : ((y1 = y0 → ((-2147483648 ≤ x3 + 6 ∧ x3 + 6 < 2147483648) ∧ Wq 56 0 0 mL_law 18 [iR 1000, iR 0, iR 80, iI (x3 + 6)] [] M Q)) ∧ (¬ y1 = y0 → Q M (some (vI 0))))) : Wq 56 0 0 mL_law 1413 [iR 1000, iR 0, iR 80, iI x3] [vI y0, vI y1] M Q := by
  refine wq_icmp_eq (pc := 1413) (tgt := 1490) dL_law_1413 (by decide) (fun c1 => ?_) (fun c1 => ?_)
  · have H := H.1 c1
    obtain ⟨s2, H⟩ := H
    refine wq_iinc (pc := 1490) (lo' := [iR 1000, iR 0, iR 80, iI (x3 + 6)]) dL_law_1490 rfl rfl (by rw [show wr (x3 + 6) = x3 + 6 from (Eq.trans (wr_eq (by omega) (by omega)) (by omega))]; rfl) ?_
    refine wq_goto (pc := 1493) (tgt := 18) dL_law_1493 (by decide) ?_
    exact H
  · have H := H.2 c1
    refine wq_iconst (pc := 1416) dL_law_1416 rfl ?_
    refine wq_ireturn (pc := 1417) dL_law_1417 (Or.inl rfl) ?_
    exact H

set_option maxRecDepth 20000 in
theorem B_L_law_1422 {x3 y0 : Int} {M : Mm} {Q : Mm → Option Mv → Prop} (hX : gI M 1000 (-1) ≤ 384) (H : Wq 1 0 0 mM_image 0 [iR 80, none] [] M (fun M' v => Wq 56 0 0 mL_law 1426 [iR 1000, iR 0, iR 80, iI x3] (v.toList ++ [vI y0]) M' Q)) : Wq 56 0 0 mL_law 1422 [iR 1000, iR 0, iR 80, iI x3] [vI y0] M Q := by
  refine wq_aload_n (pc := 1422) dL_law_1422 rfl rfl ?_
  refine wq_callV (d' := 1) (pc := 1423) (as := []) (rest := [vI y0]) (lo' := [iR 80, none]) dL_law_1423 mO_M_image lV_L_162 sh_80 (by decide) cl_11 rfl rfl rfl rfl rfl rfl ?_
  exact H

set_option maxRecDepth 20000 in
theorem B_L_law_1426 {x3 y0 y1 : Int} {M : Mm} {Q : Mm → Option Mv → Prop} (hX : gI M 1000 (-1) ≤ 384) (H : ((y1 = y0 → ((-2147483648 ≤ x3 + 6 ∧ x3 + 6 < 2147483648) ∧ Wq 56 0 0 mL_law 18 [iR 1000, iR 0, iR 80, iI (x3 + 6)] [] M Q)) ∧ (¬ y1 = y0 → Q M (some (vI 0))))) : Wq 56 0 0 mL_law 1426 [iR 1000, iR 0, iR 80, iI x3] [vI y0, vI y1] M Q := by
  refine wq_icmp_eq (pc := 1426) (tgt := 1490) dL_law_1426 (by decide) (fun c1 => ?_) (fun c1 => ?_)
  · have H := H.1 c1
    obtain ⟨s2, H⟩ := H
    refine wq_iinc (pc := 1490) (lo' := [iR 1000, iR 0, iR 80, iI (x3 + 6)]) dL_law_1490 rfl rfl (by rw [show wr (x3 + 6) = x3 + 6 from (Eq.trans (wr_eq (by omega) (by omega)) (by omega))]; rfl) ?_
    refine wq_goto (pc := 1493) (tgt := 18) dL_law_1493 (by decide) ?_
    exact H
  · have H := H.2 c1
    refine wq_iconst (pc := 1429) dL_law_1429 rfl ?_
    refine wq_ireturn (pc := 1430) dL_law_1430 (Or.inl rfl) ?_
    exact H

set_option maxRecDepth 20000 in
theorem B_L_law_1435 {x3 y0 : Int} {M : Mm} {Q : Mm → Option Mv → Prop} (hX : gI M 1000 (-1) ≤ 384) (H : Wq 2 0 0 mM_restore 0 [iR 80, none] [] M (fun M' v => Wq 56 0 0 mL_law 1439 [iR 1000, iR 0, iR 80, iI x3] (v.toList ++ [vI y0]) M' Q)) : Wq 56 0 0 mL_law 1435 [iR 1000, iR 0, iR 80, iI x3] [vI y0] M Q := by
  refine wq_aload_n (pc := 1435) dL_law_1435 rfl rfl ?_
  refine wq_callV (d' := 2) (pc := 1436) (as := []) (rest := [vI y0]) (lo' := [iR 80, none]) dL_law_1436 mO_M_restore lV_L_166 sh_80 (by decide) cl_11 rfl rfl rfl rfl rfl rfl ?_
  exact H

set_option maxRecDepth 20000 in
theorem B_L_law_1439 {x3 y0 y1 : Int} {M : Mm} {Q : Mm → Option Mv → Prop} (hX : gI M 1000 (-1) ≤ 384) (H : ((y1 = y0 → ((-2147483648 ≤ x3 + 6 ∧ x3 + 6 < 2147483648) ∧ Wq 56 0 0 mL_law 18 [iR 1000, iR 0, iR 80, iI (x3 + 6)] [] M Q)) ∧ (¬ y1 = y0 → Q M (some (vI 0))))) : Wq 56 0 0 mL_law 1439 [iR 1000, iR 0, iR 80, iI x3] [vI y0, vI y1] M Q := by
  refine wq_icmp_eq (pc := 1439) (tgt := 1490) dL_law_1439 (by decide) (fun c1 => ?_) (fun c1 => ?_)
  · have H := H.1 c1
    obtain ⟨s2, H⟩ := H
    refine wq_iinc (pc := 1490) (lo' := [iR 1000, iR 0, iR 80, iI (x3 + 6)]) dL_law_1490 rfl rfl (by rw [show wr (x3 + 6) = x3 + 6 from (Eq.trans (wr_eq (by omega) (by omega)) (by omega))]; rfl) ?_
    refine wq_goto (pc := 1493) (tgt := 18) dL_law_1493 (by decide) ?_
    exact H
  · have H := H.2 c1
    refine wq_iconst (pc := 1442) dL_law_1442 rfl ?_
    refine wq_ireturn (pc := 1443) dL_law_1443 (Or.inl rfl) ?_
    exact H

set_option maxRecDepth 20000 in
theorem B_L_law_1453 {x3 y0 : Int} {M : Mm} {Q : Mm → Option Mv → Prop} (hX : gI M 1000 (-1) ≤ 384) (H : ((0 ≤ x3 + 1 ∧ x3 + 1 < gI M 1000 (-1)) ∧ Wq 3 0 0 mM_told 0 [iR 80, iI (gI M 1000 (x3 + 1)), none, none] [] M (fun M' v => Wq 56 0 0 mL_law 1462 [iR 1000, iR 0, iR 80, iI x3] (v.toList ++ [vI y0]) M' Q))) : Wq 56 0 0 mL_law 1453 [iR 1000, iR 0, iR 80, iI x3] [vI y0] M Q := by
  obtain ⟨s1, H⟩ := H
  refine wq_aload_n (pc := 1453) dL_law_1453 rfl rfl ?_
  refine wq_aload_n (pc := 1454) dL_law_1454 rfl rfl ?_
  refine wq_iload_n (pc := 1455) dL_law_1455 rfl rfl ?_
  refine wq_iconst (pc := 1456) dL_law_1456 rfl ?_
  refine wq_iadd (pc := 1457) dL_law_1457 ?_
  refine wq_re (x := (wr (x3 + 1))) (y := (x3 + 1)) (Eq.trans (wr_eq (by omega) (by omega)) (by omega)) ?_
  refine wq_sld (pc := 1458) dL_law_1458 s1.1 s1.2 ?_
  refine wq_callV (d' := 3) (pc := 1459) (as := [vI (gI M 1000 (x3 + 1))]) (rest := [vI y0]) (lo' := [iR 80, iI (gI M 1000 (x3 + 1)), none, none]) dL_law_1459 mO_M_told lV_L_170 sh_80 (by decide) cl_11 rfl rfl rfl rfl rfl rfl ?_
  exact H

set_option maxRecDepth 20000 in
theorem B_L_law_1462 {x3 y0 y1 : Int} {M : Mm} {Q : Mm → Option Mv → Prop} (hX : gI M 1000 (-1) ≤ 384) (H : ((y1 = y0 → ((-2147483648 ≤ x3 + 6 ∧ x3 + 6 < 2147483648) ∧ Wq 56 0 0 mL_law 18 [iR 1000, iR 0, iR 80, iI (x3 + 6)] [] M Q)) ∧ (¬ y1 = y0 → Q M (some (vI 0))))) : Wq 56 0 0 mL_law 1462 [iR 1000, iR 0, iR 80, iI x3] [vI y0, vI y1] M Q := by
  refine wq_icmp_eq (pc := 1462) (tgt := 1490) dL_law_1462 (by decide) (fun c1 => ?_) (fun c1 => ?_)
  · have H := H.1 c1
    obtain ⟨s2, H⟩ := H
    refine wq_iinc (pc := 1490) (lo' := [iR 1000, iR 0, iR 80, iI (x3 + 6)]) dL_law_1490 rfl rfl (by rw [show wr (x3 + 6) = x3 + 6 from (Eq.trans (wr_eq (by omega) (by omega)) (by omega))]; rfl) ?_
    refine wq_goto (pc := 1493) (tgt := 18) dL_law_1493 (by decide) ?_
    exact H
  · have H := H.2 c1
    refine wq_iconst (pc := 1465) dL_law_1465 rfl ?_
    refine wq_ireturn (pc := 1466) dL_law_1466 (Or.inl rfl) ?_
    exact H

set_option maxRecDepth 20000 in
theorem B_L_law_1476 {x3 y0 : Int} {M : Mm} {Q : Mm → Option Mv → Prop} (hX : gI M 1000 (-1) ≤ 384) (H : ((0 ≤ x3 + 1 ∧ x3 + 1 < gI M 1000 (-1)) ∧ Wq 2 0 0 mM_found 0 [iR 80, iI (gI M 1000 (x3 + 1))] [] M (fun M' v => Wq 56 0 0 mL_law 1485 [iR 1000, iR 0, iR 80, iI x3] (v.toList ++ [vI y0]) M' Q))) : Wq 56 0 0 mL_law 1476 [iR 1000, iR 0, iR 80, iI x3] [vI y0] M Q := by
  obtain ⟨s1, H⟩ := H
  refine wq_aload_n (pc := 1476) dL_law_1476 rfl rfl ?_
  refine wq_aload_n (pc := 1477) dL_law_1477 rfl rfl ?_
  refine wq_iload_n (pc := 1478) dL_law_1478 rfl rfl ?_
  refine wq_iconst (pc := 1479) dL_law_1479 rfl ?_
  refine wq_iadd (pc := 1480) dL_law_1480 ?_
  refine wq_re (x := (wr (x3 + 1))) (y := (x3 + 1)) (Eq.trans (wr_eq (by omega) (by omega)) (by omega)) ?_
  refine wq_sld (pc := 1481) dL_law_1481 s1.1 s1.2 ?_
  refine wq_callV (d' := 2) (pc := 1482) (as := [vI (gI M 1000 (x3 + 1))]) (rest := [vI y0]) (lo' := [iR 80, iI (gI M 1000 (x3 + 1))]) dL_law_1482 mO_M_found lV_L_174 sh_80 (by decide) cl_11 rfl rfl rfl rfl rfl rfl ?_
  exact H

set_option maxRecDepth 20000 in
theorem B_L_law_1485 {x3 y0 y1 : Int} {M : Mm} {Q : Mm → Option Mv → Prop} (hX : gI M 1000 (-1) ≤ 384) (H : ((y1 = y0 → ((-2147483648 ≤ x3 + 6 ∧ x3 + 6 < 2147483648) ∧ Wq 56 0 0 mL_law 18 [iR 1000, iR 0, iR 80, iI (x3 + 6)] [] M Q)) ∧ (¬ y1 = y0 → Q M (some (vI 0))))) : Wq 56 0 0 mL_law 1485 [iR 1000, iR 0, iR 80, iI x3] [vI y0, vI y1] M Q := by
  refine wq_icmp_eq (pc := 1485) (tgt := 1490) dL_law_1485 (by decide) (fun c1 => ?_) (fun c1 => ?_)
  · have H := H.1 c1
    obtain ⟨s2, H⟩ := H
    refine wq_iinc (pc := 1490) (lo' := [iR 1000, iR 0, iR 80, iI (x3 + 6)]) dL_law_1490 rfl rfl (by rw [show wr (x3 + 6) = x3 + 6 from (Eq.trans (wr_eq (by omega) (by omega)) (by omega))]; rfl) ?_
    refine wq_goto (pc := 1493) (tgt := 18) dL_law_1493 (by decide) ?_
    exact H
  · have H := H.2 c1
    refine wq_iconst (pc := 1488) dL_law_1488 rfl ?_
    refine wq_ireturn (pc := 1489) dL_law_1489 (Or.inl rfl) ?_
    exact H
