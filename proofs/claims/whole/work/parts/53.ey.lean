/-! ===== Days.endOf ===== -/
section EY
variable {n : Int → Int} {M : Mm} {Q : Mm → Option Mv → Prop}
theorem goe_w {kd : Int} (h4 : ¬ kd = 4) (h5 : ¬ kd = 5) (d : Int) (h : ¬ kd = 1 ∨ 900 ≤ d) : goe n kd d = wkd n d := by
  unfold goe
  rw [Bool.eq_iff_iff, decide_eq_true_iff]
  constructor
  · rintro (z | z | ⟨z, -⟩)
    · exact absurd z h4
    · exact absurd z h5
    · exact z
  · intro z
    refine Or.inr (Or.inr ⟨z, ?_⟩)
    rcases h with h | h
    · exact Or.inl h
    · exact Or.inr (fun y => by omega)
theorem sp_Y_endOf {kd frm days : Int} (hS : RefOK M) (wc : wCal n) (dC : cCal n (gL M 3) (gI M 4) (gI M 2 2) (gI M 2 3) (gI M 2 4)) (f0 : 0 ≤ frm) (f1 : frm ≤ 100000000) (d0 : 0 ≤ days) (d1 : days ≤ 100000) (hq : Q M (some (vI (cEnd n kd frm days)))) : Wq 2 0 0 mY_endOf 0 [iR 2, iI kd, iI frm, iI days, none] [] M Q := by
  have b9 := dcn_b (n := n) 900
  have y9 : gI M 4 900 = dcn n 900 := dC.2.2.2.1 900 (Nat.le_refl _)
  unfold cEnd at hq
  have pap : (kd = 4 ∨ kd = 5) → Q M (some (vI (frm + days))) := by
    intro c
    rw [if_pos c, show max 0 days = days by omega] at hq
    exact hq
  have wk : ¬ kd = 4 → ¬ kd = 5 → 0 < days → (¬ kd = 1 ∨ 900 ≤ frm) → Wq 1 0 0 mY_byWeek 0 [iR 2, iI frm, iI days, none, none, none, none] [] M (fun M' v => Wq 2 0 0 mY_endOf 38 [iR 2, iI kd, iI frm, iI days, none] (v.toList ++ []) M' Q) := by
    intro h4 h5 hp h1
    rw [if_neg (not_or.mpr ⟨h4, h5⟩)] at hq
    exact sp_Y_byWeek (kd := kd) (F := (7 * days + 7000).toNat) wc.1 dC.1 dC.2.1 (fun d hd => goe_w h4 h5 d (h1.elim Or.inl (fun z => Or.inr (by omega)))) f0 f1 hp (by omega) (by omega) (B_Y_endOf_38 hq)
  refine B_Y_endOf_0 hS ⟨fun hp => ⟨fun c => ⟨by omega, pap (Or.inl c)⟩, fun c => ⟨fun c2 => ⟨fun c3 => wk c c2 hp (Or.inl c3), fun c3 => ⟨fun c4 => ?_, fun c4 => wk c c2 hp (Or.inr (by omega))⟩⟩, fun c2 => ⟨by omega, pap (Or.inr c2)⟩⟩⟩, fun hp => ?_⟩
  · subst c3
    rw [if_neg (by decide)] at hq
    obtain ⟨k, rfl⟩ : ∃ k : Nat, frm = k := ⟨frm.toNat, by omega⟩
    have bk := dcn_b (n := n) k
    rw [dC.2.2.2.1 k (by omega), y9]
    have e : days = dcn n k + days - dcn n k := by omega
    refine ⟨by omega, fun c5 => ?_, fun c5 => ⟨by omega, ?_⟩⟩
    · refine sp_Y_firstWith (n := n) hS (fun d hd => dC.2.2.2.1 d hd) (by omega) (by omega) c5 (fun r r1 r2 r3 r4 => B_Y_endOf_88 ?_)
      have := cE_dr (n := n) (goal := dcn n k + days) r2 r3 r4 (r - k) k (7 * days + 7000).toNat (by omega) (by omega)
      rw [← e] at this
      rw [this] at hq
      exact hq
    · have := cE_dp (n := n) (goal := dcn n k + days) (by omega) (900 - k) k ((7 * days + 7000).toNat - (900 - k)) (by omega)
      rw [← e, show (7 * days + 7000).toNat - (900 - k) + (900 - k) = (7 * days + 7000).toNat by omega] at this
      rw [this] at hq
      exact sp_Y_byWeek (kd := 1) (F := (7 * days + 7000).toNat - (900 - k)) wc.1 dC.1 dC.2.1 (fun d hd => goe_w (by decide) (by decide) d (Or.inr hd)) (by decide) (by decide) (by omega) (by omega) (by omega) (B_Y_endOf_80 hq)
  · by_cases c : kd = 4 ∨ kd = 5
    · rw [if_pos c, show max 0 days = 0 by omega, Int.add_zero] at hq
      exact hq
    · rw [if_neg c, cE_0 (by omega)] at hq
      exact hq
end EY
