/-! ===== the law ===== -/
section LAW
variable {M : Mm}
/-- the law's answer -/
def LQ : Mm → Option Mv → Prop := fun _ v => v = some (vI 1)
theorem law_loop : ∀ (f : Nat) (x : Int) (s : St) (M : Mm), WfS s → CI s M → RI s M → 0 ≤ x → gI M 1000 (-1) ≤ 384 → 0 ≤ gI M 1000 (-1) → (gI M 1000 (-1) - x).toNat ≤ f → Wq 56 0 0 mL_law 18 [iR 1000, iR 0, iR 80, iI x] [] M LQ := by
  intro f
  induction f with
  | zero =>
    intro x s M hw hC hR x0 L1 L0 hf
    exact B_L_law_18 L1 ⟨by omega, fun _ => rfl, fun z => by omega⟩
  | succ f ih =>
    intro x s M hw hC hR x0 L1 L0 hf
    refine wq_okM (fun hM => ?_)
    have rg : ∀ i, -2147483648 ≤ gI M 1000 i ∧ gI M 1000 i < 2147483648 := fun i => hM.2.1 1000 i
    have nxt : ∀ (s' : St) (M2 : Mm), ¬ gI M 1000 (-1) - 6 < x → WfS s' → CI s' M2 → RI s' M2 → gI M2 1000 = gI M 1000 → Wq 56 0 0 mL_law 18 [iR 1000, iR 0, iR 80, iI (x + 6)] [] M2 LQ := fun s' M2 z w' c' r' e => ih (x + 6) s' M2 w' c' r' (by omega) (by rw [e]; exact L1) (by rw [e]; exact L0) (by rw [e]; omega)
    refine B_L_law_18 L1 ⟨by omega, fun _ => rfl, fun z => ⟨by omega, ?_, ?_, ?_, ?_, ?_, ?_, ?_, ?_, ?_, ?_, ?_, ?_, ?_, ?_, ?_, ?_, ?_, ?_, ?_, ?_, ?_, ?_, ?_, ?_, ?_, ?_, ?_, ?_, ?_, ?_, ?_, ?_, ?_, ?_, ?_, ?_, ?_, ?_, ?_⟩⟩
    · intro y
      refine ⟨by omega, ?_⟩
      refine c_work (k := (gI M 1000 (x + 1))) (d := (gI M 1000 (x + 2))) hw hC (fun M1 h1 f1 => ?_)
      have e1 : gI M1 1000 = gI M 1000 := funext fun i => f1 1000 i (by decide)
      refine B_L_law_214 (by rw [e1]; exact L1) ?_
      rw [e1]
      refine ⟨by omega, ?_⟩
      refine r_work (k := (gI M 1000 (x + 1))) (d := (gI M 1000 (x + 2))) hw (hR.fr f1 h1.1) (fun M2 h2 f2 => ?_)
      have e2 : gI M2 1000 = gI M 1000 := (funext fun i => (f2 1000 i (by decide)).1).trans e1
      refine B_L_law_228 (by rw [e2]; exact L1) ⟨fun _ => ⟨by omega, nxt _ M2 z (w_work hw) (h1.fr f2 h2.1) h2 e2⟩, fun q => absurd rfl q⟩
    · intro y
      refine ⟨by omega, ?_⟩
      refine c_as (w := (gI M 1000 (x + 1))) (kd := (gI M 1000 (x + 2))) hw hC (fun M1 h1 f1 => ?_)
      have e1 : gI M1 1000 = gI M 1000 := funext fun i => f1 1000 i (by decide)
      refine B_L_law_247 (by rw [e1]; exact L1) ?_
      rw [e1]
      refine ⟨by omega, ?_⟩
      refine r_as (w := (gI M 1000 (x + 1))) (kd := (gI M 1000 (x + 2))) hw (hR.fr f1 h1.1) (fun M2 h2 f2 => ?_)
      have e2 : gI M2 1000 = gI M 1000 := (funext fun i => (f2 1000 i (by decide)).1).trans e1
      refine B_L_law_261 (by rw [e2]; exact L1) ⟨fun _ => ⟨by omega, nxt _ M2 z (w_as hw) (h1.fr f2 h2.1) h2 e2⟩, fun q => absurd rfl q⟩
    · intro y
      refine ⟨by omega, ?_⟩
      refine c_edit (w := (gI M 1000 (x + 1))) (d := (gI M 1000 (x + 2))) hw hC (fun M1 h1 f1 => ?_)
      have e1 : gI M1 1000 = gI M 1000 := funext fun i => f1 1000 i (by decide)
      refine B_L_law_280 (by rw [e1]; exact L1) ?_
      rw [e1]
      refine ⟨by omega, ?_⟩
      refine r_edit (w := (gI M 1000 (x + 1))) (d := (gI M 1000 (x + 2))) hw (hR.fr f1 h1.1) (fun M2 h2 f2 => ?_)
      have e2 : gI M2 1000 = gI M 1000 := (funext fun i => (f2 1000 i (by decide)).1).trans e1
      refine B_L_law_294 (by rw [e2]; exact L1) ⟨fun _ => ⟨by omega, nxt _ M2 z (w_edit hw) (h1.fr f2 h2.1) h2 e2⟩, fun q => absurd rfl q⟩
    · intro y
      refine ⟨by omega, ?_⟩
      refine c_link (i := (gI M 1000 (x + 1))) (j := (gI M 1000 (x + 2))) (g := (gI M 1000 (x + 3))) hw hC (fun M1 h1 f1 => ?_)
      have e1 : gI M1 1000 = gI M 1000 := funext fun i => f1 1000 i (by decide)
      refine B_L_law_318 (by rw [e1]; exact L1) ?_
      rw [e1]
      refine ⟨by omega, ?_⟩
      refine r_link (i := (gI M 1000 (x + 1))) (j := (gI M 1000 (x + 2))) (g := (gI M 1000 (x + 3))) hw (hR.fr f1 h1.1) (fun M2 h2 f2 => ?_)
      have e2 : gI M2 1000 = gI M 1000 := (funext fun i => (f2 1000 i (by decide)).1).trans e1
      refine B_L_law_337 (by rw [e2]; exact L1) ⟨fun _ => ⟨by omega, nxt _ M2 z (w_link hw) (h1.fr f2 h2.1) h2 e2⟩, fun q => absurd rfl q⟩
    · intro y
      refine ⟨by omega, ?_⟩
      refine c_unlink (i := (gI M 1000 (x + 1))) (j := (gI M 1000 (x + 2))) hw hC (fun M1 h1 f1 => ?_)
      have e1 : gI M1 1000 = gI M 1000 := funext fun i => f1 1000 i (by decide)
      refine B_L_law_356 (by rw [e1]; exact L1) ?_
      rw [e1]
      refine ⟨by omega, ?_⟩
      refine r_unlink (i := (gI M 1000 (x + 1))) (j := (gI M 1000 (x + 2))) hw (hR.fr f1 h1.1) (fun M2 h2 f2 => ?_)
      have e2 : gI M2 1000 = gI M 1000 := (funext fun i => (f2 1000 i (by decide)).1).trans e1
      refine B_L_law_370 (by rw [e2]; exact L1) ⟨fun _ => ⟨by omega, nxt _ M2 z (w_unlink hw) (h1.fr f2 h2.1) h2 e2⟩, fun q => absurd rfl q⟩
    · intro y
      refine ⟨by omega, ?_⟩
      refine c_week (x := (gI M 1000 (x + 1))) hw hC (fun M1 h1 f1 => ?_)
      have e1 : gI M1 1000 = gI M 1000 := funext fun i => f1 1000 i (by decide)
      refine B_L_law_384 (by rw [e1]; exact L1) ?_
      rw [e1]
      refine ⟨by omega, ?_⟩
      refine r_week (x := (gI M 1000 (x + 1))) hw (hR.fr f1 h1.1) (fun M2 h2 f2 => ?_)
      have e2 : gI M2 1000 = gI M 1000 := (funext fun i => (f2 1000 i (by decide)).1).trans e1
      refine B_L_law_393 (by rw [e2]; exact L1) ⟨fun _ => ⟨by omega, nxt _ M2 z (w_week hw) (h1.fr f2 h2.1) h2 e2⟩, fun q => absurd rfl q⟩
    · intro y
      refine ⟨by omega, fun v => ?_, fun v => ?_⟩
      · refine c_rain (d := (gI M 1000 (x + 1))) (k := (gI M 1000 (x + 2))) (v := 0) (by decide) hw hC (fun M1 h1 f1 => ?_)
        have e1 : gI M1 1000 = gI M 1000 := funext fun i => f1 1000 i (by decide)
        refine B_L_law_425 (by rw [e1]; exact L1) ?_
        rw [e1]
        refine ⟨by omega, fun _ => ?_, fun q => absurd v q⟩
        refine r_rain (d := (gI M 1000 (x + 1))) (k := (gI M 1000 (x + 2))) (v := 0) (by decide) hw (hR.fr f1 h1.1) (fun M2 h2 f2 => ?_)
        have e2 : gI M2 1000 = gI M 1000 := (funext fun i => (f2 1000 i (by decide)).1).trans e1
        refine B_L_law_452 (by rw [e2]; exact L1) ⟨fun _ => ⟨by omega, nxt _ M2 z (w_rain (by decide) hw) (h1.fr f2 h2.1) h2 e2⟩, fun q => absurd rfl q⟩
      · refine c_rain (d := (gI M 1000 (x + 1))) (k := (gI M 1000 (x + 2))) (v := 1) (by decide) hw hC (fun M1 h1 f1 => ?_)
        have e1 : gI M1 1000 = gI M 1000 := funext fun i => f1 1000 i (by decide)
        refine B_L_law_425 (by rw [e1]; exact L1) ?_
        rw [e1]
        refine ⟨by omega, fun q => absurd q v, fun _ => ?_⟩
        refine r_rain (d := (gI M 1000 (x + 1))) (k := (gI M 1000 (x + 2))) (v := 1) (by decide) hw (hR.fr f1 h1.1) (fun M2 h2 f2 => ?_)
        have e2 : gI M2 1000 = gI M 1000 := (funext fun i => (f2 1000 i (by decide)).1).trans e1
        refine B_L_law_452 (by rw [e2]; exact L1) ⟨fun _ => ⟨by omega, nxt _ M2 z (w_rain (by decide) hw) (h1.fr f2 h2.1) h2 e2⟩, fun q => absurd rfl q⟩
    · intro y
      refine ⟨by omega, ?_⟩
      refine c_today (d := (gI M 1000 (x + 1))) hw hC (fun M1 h1 f1 => ?_)
      have e1 : gI M1 1000 = gI M 1000 := funext fun i => f1 1000 i (by decide)
      refine B_L_law_466 (by rw [e1]; exact L1) ?_
      rw [e1]
      refine ⟨by omega, ?_⟩
      refine r_today (d := (gI M 1000 (x + 1))) hw (hR.fr f1 h1.1) (fun M2 h2 f2 => ?_)
      have e2 : gI M2 1000 = gI M 1000 := (funext fun i => (f2 1000 i (by decide)).1).trans e1
      refine B_L_law_475 (by rw [e2]; exact L1) ⟨fun _ => ⟨by omega, nxt _ M2 z (w_today hw) (h1.fr f2 h2.1) h2 e2⟩, fun q => absurd rfl q⟩
    · intro y
      refine ⟨by omega, ?_⟩
      refine c_event (x := (gI M 1000 (x + 1))) (d := (gI M 1000 (x + 2))) (m := (gI M 1000 (x + 3))) hw hC (fun M1 h1 f1 => ?_)
      have e1 : gI M1 1000 = gI M 1000 := funext fun i => f1 1000 i (by decide)
      refine B_L_law_499 (by rw [e1]; exact L1) ?_
      rw [e1]
      refine ⟨by omega, ?_⟩
      refine r_event (x := (gI M 1000 (x + 1))) (d := (gI M 1000 (x + 2))) (m := (gI M 1000 (x + 3))) hw (hR.fr f1 h1.1) (fun M2 h2 f2 => ?_)
      have e2 : gI M2 1000 = gI M 1000 := (funext fun i => (f2 1000 i (by decide)).1).trans e1
      refine B_L_law_518 (by rw [e2]; exact L1) ⟨fun _ => ⟨by omega, nxt _ M2 z (w_event hw) (h1.fr f2 h2.1) h2 e2⟩, fun q => absurd rfl q⟩
    · intro y
      refine ⟨by omega, ?_⟩
      refine c_notice (e := (gI M 1000 (x + 1))) (d := (gI M 1000 (x + 2))) hw hC (fun M1 h1 f1 => ?_)
      have e1 : gI M1 1000 = gI M 1000 := funext fun i => f1 1000 i (by decide)
      refine B_L_law_537 (by rw [e1]; exact L1) ?_
      rw [e1]
      refine ⟨by omega, ?_⟩
      refine r_notice (e := (gI M 1000 (x + 1))) (d := (gI M 1000 (x + 2))) hw (hR.fr f1 h1.1) (fun M2 h2 f2 => ?_)
      have e2 : gI M2 1000 = gI M 1000 := (funext fun i => (f2 1000 i (by decide)).1).trans e1
      refine B_L_law_551 (by rw [e2]; exact L1) ⟨fun _ => ⟨by omega, nxt _ M2 z (w_notice hw) (h1.fr f2 h2.1) h2 e2⟩, fun q => absurd rfl q⟩
    · intro y
      refine ⟨by omega, ?_⟩
      refine c_back (e := (gI M 1000 (x + 1))) hw hC (fun M1 h1 f1 => ?_)
      have e1 : gI M1 1000 = gI M 1000 := funext fun i => f1 1000 i (by decide)
      refine B_L_law_565 (by rw [e1]; exact L1) ?_
      rw [e1]
      refine ⟨by omega, ?_⟩
      refine r_back (e := (gI M 1000 (x + 1))) hw (hR.fr f1 h1.1) (fun M2 h2 f2 => ?_)
      have e2 : gI M2 1000 = gI M 1000 := (funext fun i => (f2 1000 i (by decide)).1).trans e1
      refine B_L_law_574 (by rw [e2]; exact L1) ⟨fun _ => ⟨by omega, nxt _ M2 z (w_back hw) (h1.fr f2 h2.1) h2 e2⟩, fun q => absurd rfl q⟩
    · intro y
      refine ⟨by omega, ?_⟩
      refine c_of (e := (gI M 1000 (x + 1))) (f := (gI M 1000 (x + 2))) hw hC (fun M1 h1 f1 => ?_)
      have e1 : gI M1 1000 = gI M 1000 := funext fun i => f1 1000 i (by decide)
      refine B_L_law_593 (by rw [e1]; exact L1) ?_
      rw [e1]
      refine ⟨by omega, ?_⟩
      refine r_of (e := (gI M 1000 (x + 1))) (f := (gI M 1000 (x + 2))) hw (hR.fr f1 h1.1) (fun M2 h2 f2 => ?_)
      have e2 : gI M2 1000 = gI M 1000 := (funext fun i => (f2 1000 i (by decide)).1).trans e1
      refine B_L_law_607 (by rw [e2]; exact L1) ⟨fun _ => ⟨by omega, nxt _ M2 z (w_of hw) (h1.fr f2 h2.1) h2 e2⟩, fun q => absurd rfl q⟩
    · intro y
      refine ⟨by omega, ?_⟩
      refine c_known (d := (gI M 1000 (x + 1))) hw hC (fun M1 h1 f1 => ?_)
      have e1 : gI M1 1000 = gI M 1000 := funext fun i => f1 1000 i (by decide)
      refine B_L_law_621 (by rw [e1]; exact L1) ?_
      rw [e1]
      refine ⟨by omega, ?_⟩
      refine r_known (d := (gI M 1000 (x + 1))) hw (hR.fr f1 h1.1) (fun M2 h2 f2 => ?_)
      have e2 : gI M2 1000 = gI M 1000 := (funext fun i => (f2 1000 i (by decide)).1).trans e1
      refine B_L_law_630 (by rw [e2]; exact L1) ⟨fun _ => ⟨by omega, nxt _ M2 z (w_known hw) (h1.fr f2 h2.1) h2 e2⟩, fun q => absurd rfl q⟩
    · intro y
      refine ⟨by omega, ?_⟩
      refine c_plan (st := (gI M 1000 (x + 1))) (w := (gI M 1000 (x + 2))) (k := (gI M 1000 (x + 3))) hw hC (rg _).2 (fun M1 h1 f1 => ?_)
      have e1 : gI M1 1000 = gI M 1000 := funext fun i => f1 1000 i (by decide)
      refine B_L_law_654 (by rw [e1]; exact L1) ?_
      rw [e1]
      refine ⟨by omega, ?_⟩
      refine r_plan (st := (gI M 1000 (x + 1))) (w := (gI M 1000 (x + 2))) (k := (gI M 1000 (x + 3))) hw (hR.fr f1 h1.1) (fun M2 h2 f2 => ?_)
      have e2 : gI M2 1000 = gI M 1000 := (funext fun i => (f2 1000 i (by decide)).1).trans e1
      refine B_L_law_673 (by rw [e2]; exact L1) ⟨fun _ => ⟨by omega, nxt _ M2 z (w_plan hw) (h1.fr f2 h2.1) h2 e2⟩, fun q => absurd rfl q⟩
    · intro y
      refine ⟨by omega, ?_⟩
      refine c_end (st := (gI M 1000 (x + 1))) hw hC (rg _).2 (fun M1 h1 f1 => ?_)
      have e1 : gI M1 1000 = gI M 1000 := funext fun i => f1 1000 i (by decide)
      refine B_L_law_687 (by rw [e1]; exact L1) ?_
      rw [e1]
      refine ⟨by omega, ?_⟩
      refine r_end (st := (gI M 1000 (x + 1))) hw (hR.fr f1 h1.1) (fun M2 h2 f2 => ?_)
      have e2 : gI M2 1000 = gI M 1000 := (funext fun i => (f2 1000 i (by decide)).1).trans e1
      refine B_L_law_696 (by rw [e2]; exact L1) ⟨fun _ => ⟨by omega, nxt _ M2 z (w_end hw) (h1.fr f2 h2.1) h2 e2⟩, fun q => absurd rfl q⟩
    · intro y
      refine ⟨by omega, ?_⟩
      refine c_chain (st := (gI M 1000 (x + 1))) (i := (gI M 1000 (x + 2))) hw hC (rg _).2 (fun M1 h1 f1 => ?_)
      have e1 : gI M1 1000 = gI M 1000 := funext fun i => f1 1000 i (by decide)
      refine B_L_law_715 (by rw [e1]; exact L1) ?_
      rw [e1]
      refine ⟨by omega, ?_⟩
      refine r_chain (st := (gI M 1000 (x + 1))) (i := (gI M 1000 (x + 2))) hw (hR.fr f1 h1.1) (rg _).2 (fun M2 h2 f2 => ?_)
      have e2 : gI M2 1000 = gI M 1000 := (funext fun i => (f2 1000 i (by decide)).1).trans e1
      refine B_L_law_729 (by rw [e2]; exact L1) ⟨fun _ => ⟨by omega, nxt _ M2 z (w_chain hw) (h1.fr f2 h2.1) h2 e2⟩, fun q => absurd rfl q⟩
    · intro y
      refine ⟨by omega, ?_⟩
      refine c_one (e := (gI M 1000 (x + 1))) (k := (gI M 1000 (x + 2))) hw hC (fun M1 h1 f1 => ?_)
      have e1 : gI M1 1000 = gI M 1000 := funext fun i => f1 1000 i (by decide)
      refine B_L_law_748 (by rw [e1]; exact L1) ?_
      rw [e1]
      refine ⟨by omega, ?_⟩
      refine r_one (e := (gI M 1000 (x + 1))) (k := (gI M 1000 (x + 2))) hw (hR.fr f1 h1.1) (fun M2 h2 f2 => ?_)
      have e2 : gI M2 1000 = gI M 1000 := (funext fun i => (f2 1000 i (by decide)).1).trans e1
      refine B_L_law_762 (by rw [e2]; exact L1) ⟨fun _ => ⟨by omega, nxt _ M2 z (w_one hw) (h1.fr f2 h2.1) h2 e2⟩, fun q => absurd rfl q⟩
    · intro y
      refine ⟨by omega, ?_⟩
      refine c_without (e := (gI M 1000 (x + 1))) (k := (gI M 1000 (x + 2))) hw hC (fun M1 h1 f1 => ?_)
      have e1 : gI M1 1000 = gI M 1000 := funext fun i => f1 1000 i (by decide)
      refine B_L_law_781 (by rw [e1]; exact L1) ?_
      rw [e1]
      refine ⟨by omega, ?_⟩
      refine r_without (e := (gI M 1000 (x + 1))) (k := (gI M 1000 (x + 2))) hw (hR.fr f1 h1.1) (fun M2 h2 f2 => ?_)
      have e2 : gI M2 1000 = gI M 1000 := (funext fun i => (f2 1000 i (by decide)).1).trans e1
      refine B_L_law_795 (by rw [e2]; exact L1) ⟨fun _ => ⟨by omega, nxt _ M2 z (w_without hw) (h1.fr f2 h2.1) h2 e2⟩, fun q => absurd rfl q⟩
    · intro y
      refine ⟨by omega, ?_⟩
      refine c_butFor (c := (gI M 1000 (x + 1))) (k := (gI M 1000 (x + 2))) hw hC (fun M1 h1 f1 => ?_)
      have e1 : gI M1 1000 = gI M 1000 := funext fun i => f1 1000 i (by decide)
      refine B_L_law_814 (by rw [e1]; exact L1) ?_
      rw [e1]
      refine ⟨by omega, ?_⟩
      refine r_butFor (c := (gI M 1000 (x + 1))) (k := (gI M 1000 (x + 2))) hw (hR.fr f1 h1.1) (fun M2 h2 f2 => ?_)
      have e2 : gI M2 1000 = gI M 1000 := (funext fun i => (f2 1000 i (by decide)).1).trans e1
      refine B_L_law_828 (by rw [e2]; exact L1) ⟨fun _ => ⟨by omega, nxt _ M2 z (w_butFor hw) (h1.fr f2 h2.1) h2 e2⟩, fun q => absurd rfl q⟩
    · intro y
      refine ⟨by omega, ?_⟩
      refine c_window (m := (gI M 1000 (x + 1))) (w := (gI M 1000 (x + 2))) (c := (gI M 1000 (x + 3))) (k := (gI M 1000 (x + 4))) hw hC (fun M1 h1 f1 => ?_)
      have e1 : gI M1 1000 = gI M 1000 := funext fun i => f1 1000 i (by decide)
      refine B_L_law_857 (by rw [e1]; exact L1) ?_
      rw [e1]
      refine ⟨by omega, ?_⟩
      refine r_window (m := (gI M 1000 (x + 1))) (w := (gI M 1000 (x + 2))) (c := (gI M 1000 (x + 3))) (k := (gI M 1000 (x + 4))) hw (hR.fr f1 h1.1) (fun M2 h2 f2 => ?_)
      have e2 : gI M2 1000 = gI M 1000 := (funext fun i => (f2 1000 i (by decide)).1).trans e1
      refine B_L_law_881 (by rw [e2]; exact L1) ⟨fun _ => ⟨by omega, nxt _ M2 z (w_window hw) (h1.fr f2 h2.1) h2 e2⟩, fun q => absurd rfl q⟩
    · intro y
      refine ⟨by omega, ?_⟩
      refine c_feed (x := (lOr (lShl (gI M 1000 (x + 1)) 32) (lAnd (gI M 1000 (x + 2)) 4294967295))) (k := (gI M 1000 (x + 3))) hw hC (fun M1 h1 f1 => ?_)
      have e1 : gI M1 1000 = gI M 1000 := funext fun i => f1 1000 i (by decide)
      refine B_L_law_915 (by rw [e1]; exact L1) ?_
      rw [e1]
      refine ⟨by omega, ?_⟩
      refine r_feed (x := (lOr (lShl (gI M 1000 (x + 1)) 32) (lAnd (gI M 1000 (x + 2)) 4294967295))) (k := (gI M 1000 (x + 3))) hw (hR.fr f1 h1.1) (fun M2 h2 f2 => ?_)
      have e2 : gI M2 1000 = gI M 1000 := (funext fun i => (f2 1000 i (by decide)).1).trans e1
      refine B_L_law_944 (by rw [e2]; exact L1) ⟨fun _ => ⟨by omega, nxt _ M2 z (w_feed hw) (h1.fr f2 h2.1) h2 e2⟩, fun q => absurd rfl q⟩
    · intro y
      refine ⟨by omega, ?_⟩
      refine c_clause (u := (gI M 1000 (x + 1))) (fr := (gI M 1000 (x + 2))) hw hC (fun M1 h1 f1 => ?_)
      have e1 : gI M1 1000 = gI M 1000 := funext fun i => f1 1000 i (by decide)
      refine B_L_law_963 (by rw [e1]; exact L1) ?_
      rw [e1]
      refine ⟨by omega, ?_⟩
      refine r_clause (u := (gI M 1000 (x + 1))) (fr := (gI M 1000 (x + 2))) hw (hR.fr f1 h1.1) (fun M2 h2 f2 => ?_)
      have e2 : gI M2 1000 = gI M 1000 := (funext fun i => (f2 1000 i (by decide)).1).trans e1
      refine B_L_law_977 (by rw [e2]; exact L1) ⟨fun _ => ⟨by omega, nxt _ M2 z (w_clause hw) (h1.fr f2 h2.1) h2 e2⟩, fun q => absurd rfl q⟩
    · intro y
      refine ⟨by omega, ?_⟩
      refine c_says (u := (gI M 1000 (x + 1))) (e := (gI M 1000 (x + 2))) hw hC (fun M1 h1 f1 => ?_)
      have e1 : gI M1 1000 = gI M 1000 := funext fun i => f1 1000 i (by decide)
      refine B_L_law_996 (by rw [e1]; exact L1) ?_
      rw [e1]
      refine ⟨by omega, ?_⟩
      refine r_says (u := (gI M 1000 (x + 1))) (e := (gI M 1000 (x + 2))) hw (hR.fr f1 h1.1) (fun M2 h2 f2 => ?_)
      have e2 : gI M2 1000 = gI M 1000 := (funext fun i => (f2 1000 i (by decide)).1).trans e1
      refine B_L_law_1010 (by rw [e2]; exact L1) ⟨fun _ => ⟨by omega, nxt _ M2 z (w_says hw) (h1.fr f2 h2.1) h2 e2⟩, fun q => absurd rfl q⟩
    · intro y
      refine ⟨by omega, ?_⟩
      refine c_force (u := (gI M 1000 (x + 1))) (e := (gI M 1000 (x + 2))) hw hC (fun M1 h1 f1 => ?_)
      have e1 : gI M1 1000 = gI M 1000 := funext fun i => f1 1000 i (by decide)
      refine B_L_law_1029 (by rw [e1]; exact L1) ?_
      rw [e1]
      refine ⟨by omega, ?_⟩
      refine r_force (u := (gI M 1000 (x + 1))) (e := (gI M 1000 (x + 2))) hw (hR.fr f1 h1.1) (fun M2 h2 f2 => ?_)
      have e2 : gI M2 1000 = gI M 1000 := (funext fun i => (f2 1000 i (by decide)).1).trans e1
      refine B_L_law_1043 (by rw [e2]; exact L1) ⟨fun _ => ⟨by omega, nxt _ M2 z (w_force hw) (h1.fr f2 h2.1) h2 e2⟩, fun q => absurd rfl q⟩
    · intro y
      refine ⟨by omega, ?_⟩
      refine c_claim (w := (gI M 1000 (x + 1))) hw hC (fun M1 h1 f1 => ?_)
      have e1 : gI M1 1000 = gI M 1000 := funext fun i => f1 1000 i (by decide)
      refine B_L_law_1057 (by rw [e1]; exact L1) ?_
      rw [e1]
      refine ⟨by omega, ?_⟩
      refine r_claim (w := (gI M 1000 (x + 1))) hw (hR.fr f1 h1.1) (fun M2 h2 f2 => ?_)
      have e2 : gI M2 1000 = gI M 1000 := (funext fun i => (f2 1000 i (by decide)).1).trans e1
      refine B_L_law_1066 (by rw [e2]; exact L1) ⟨fun _ => ⟨by omega, nxt _ M2 z (w_claim hw) (h1.fr f2 h2.1) h2 e2⟩, fun q => absurd rfl q⟩
    · intro y
      refine ⟨by omega, ?_⟩
      refine c_hurry (w := (gI M 1000 (x + 1))) (m := (gI M 1000 (x + 2))) (p := (gI M 1000 (x + 3))) hw hC (fun M1 h1 f1 => ?_)
      have e1 : gI M1 1000 = gI M 1000 := funext fun i => f1 1000 i (by decide)
      refine B_L_law_1090 (by rw [e1]; exact L1) ?_
      rw [e1]
      refine ⟨by omega, ?_⟩
      refine r_hurry (w := (gI M 1000 (x + 1))) (m := (gI M 1000 (x + 2))) (p := (gI M 1000 (x + 3))) hw (hR.fr f1 h1.1) (fun M2 h2 f2 => ?_)
      have e2 : gI M2 1000 = gI M 1000 := (funext fun i => (f2 1000 i (by decide)).1).trans e1
      refine B_L_law_1109 (by rw [e2]; exact L1) ⟨fun _ => ⟨by omega, nxt _ M2 z (w_hurry hw) (h1.fr f2 h2.1) h2 e2⟩, fun q => absurd rfl q⟩
    · intro y
      refine c_calm  hw hC (fun M1 h1 f1 => ?_)
      have e1 : gI M1 1000 = gI M 1000 := funext fun i => f1 1000 i (by decide)
      refine B_L_law_1118 (by rw [e1]; exact L1) ?_
      refine r_calm  hw (hR.fr f1 h1.1) (fun M2 h2 f2 => ?_)
      have e2 : gI M2 1000 = gI M 1000 := (funext fun i => (f2 1000 i (by decide)).1).trans e1
      refine B_L_law_1122 (by rw [e2]; exact L1) ⟨fun _ => ⟨by omega, nxt _ M2 z (w_calm hw) (h1.fr f2 h2.1) h2 e2⟩, fun q => absurd rfl q⟩
    · intro y
      refine ⟨by omega, ?_⟩
      refine c_least (day := (gI M 1000 (x + 1))) (w := (gI M 1000 (x + 2))) hw hC (fun M1 h1 f1 => ?_)
      have e1 : gI M1 1000 = gI M 1000 := funext fun i => f1 1000 i (by decide)
      refine B_L_law_1141 (by rw [e1]; exact L1) ?_
      rw [e1]
      refine ⟨by omega, ?_⟩
      refine r_least (day := (gI M 1000 (x + 1))) (w := (gI M 1000 (x + 2))) hw (hR.fr f1 h1.1) (fun M2 h2 f2 => ?_)
      have e2 : gI M2 1000 = gI M 1000 := (funext fun i => (f2 1000 i (by decide)).1).trans e1
      refine B_L_law_1155 (by rw [e2]; exact L1) ⟨fun _ => ⟨by omega, nxt _ M2 z (w_least hw) (h1.fr f2 h2.1) h2 e2⟩, fun q => absurd rfl q⟩
    · intro y
      refine ⟨by omega, ?_⟩
      refine c_proves (q := (gI M 1000 (x + 1))) (day := (gI M 1000 (x + 2))) (v := (gI M 1000 (x + 3))) hw hC (fun M1 h1 f1 => ?_)
      have e1 : gI M1 1000 = gI M 1000 := funext fun i => f1 1000 i (by decide)
      refine B_L_law_1179 (by rw [e1]; exact L1) ?_
      rw [e1]
      refine ⟨by omega, ?_⟩
      refine r_proves (q := (gI M 1000 (x + 1))) (day := (gI M 1000 (x + 2))) (v := (gI M 1000 (x + 3))) hw (hR.fr f1 h1.1) (fun M2 h2 f2 => ?_)
      have e2 : gI M2 1000 = gI M 1000 := (funext fun i => (f2 1000 i (by decide)).1).trans e1
      refine B_L_law_1198 (by rw [e2]; exact L1) ⟨fun _ => ⟨by omega, nxt _ M2 z (w_proves hw) (h1.fr f2 h2.1) h2 e2⟩, fun q => absurd rfl q⟩
    · intro y
      refine ⟨by omega, ?_⟩
      refine c_voice (w := (gI M 1000 (x + 1))) (a := (gI M 1000 (x + 2))) (x := (gI M 1000 (x + 3))) hw hC (fun M1 h1 f1 => ?_)
      have e1 : gI M1 1000 = gI M 1000 := funext fun i => f1 1000 i (by decide)
      refine B_L_law_1222 (by rw [e1]; exact L1) ?_
      rw [e1]
      refine ⟨by omega, ?_⟩
      refine r_voice (w := (gI M 1000 (x + 1))) (a := (gI M 1000 (x + 2))) (x := (gI M 1000 (x + 3))) hw (hR.fr f1 h1.1) (fun M2 h2 f2 => ?_)
      have e2 : gI M2 1000 = gI M 1000 := (funext fun i => (f2 1000 i (by decide)).1).trans e1
      refine B_L_law_1241 (by rw [e2]; exact L1) ⟨fun _ => ⟨by omega, nxt _ M2 z (w_voice hw) (h1.fr f2 h2.1) h2 e2⟩, fun q => absurd rfl q⟩
    · intro y
      refine ⟨by omega, ?_⟩
      refine c_trace (d := (gI M 1000 (x + 1))) hw hC (fun M1 h1 f1 => ?_)
      have e1 : gI M1 1000 = gI M 1000 := funext fun i => f1 1000 i (by decide)
      refine B_L_law_1255 (by rw [e1]; exact L1) ?_
      rw [e1]
      refine ⟨by omega, ?_⟩
      refine r_trace (d := (gI M 1000 (x + 1))) hw (hR.fr f1 h1.1) (fun M2 h2 f2 => ?_)
      have e2 : gI M2 1000 = gI M 1000 := (funext fun i => (f2 1000 i (by decide)).1).trans e1
      refine B_L_law_1264 (by rw [e2]; exact L1) ⟨fun _ => ⟨by omega, nxt _ M2 z (w_trace hw) (h1.fr f2 h2.1) h2 e2⟩, fun q => absurd rfl q⟩
    · intro y
      refine ⟨by omega, ?_⟩
      refine c_sheet (q := (gI M 1000 (x + 1))) (b := (gI M 1000 (x + 2))) (k := (gI M 1000 (x + 3))) hw hC (fun M1 h1 f1 => ?_)
      have e1 : gI M1 1000 = gI M 1000 := funext fun i => f1 1000 i (by decide)
      refine B_L_law_1288 (by rw [e1]; exact L1) ?_
      rw [e1]
      refine ⟨by omega, ?_⟩
      refine r_sheet (q := (gI M 1000 (x + 1))) (b := (gI M 1000 (x + 2))) (k := (gI M 1000 (x + 3))) hw (hR.fr f1 h1.1) (fun M2 h2 f2 => ?_)
      have e2 : gI M2 1000 = gI M 1000 := (funext fun i => (f2 1000 i (by decide)).1).trans e1
      refine B_L_law_1307 (by rw [e2]; exact L1) ⟨fun _ => ⟨by omega, nxt _ M2 z (w_sheet hw) (h1.fr f2 h2.1) h2 e2⟩, fun q => absurd rfl q⟩
    · intro y
      refine ⟨by omega, ?_⟩
      refine c_put (q := (gI M 1000 (x + 1))) (i := (gI M 1000 (x + 2))) (v := (gI M 1000 (x + 3))) hw hC (fun M1 h1 f1 => ?_)
      have e1 : gI M1 1000 = gI M 1000 := funext fun i => f1 1000 i (by decide)
      refine B_L_law_1331 (by rw [e1]; exact L1) ?_
      rw [e1]
      refine ⟨by omega, ?_⟩
      refine r_put (q := (gI M 1000 (x + 1))) (i := (gI M 1000 (x + 2))) (v := (gI M 1000 (x + 3))) hw (hR.fr f1 h1.1) (fun M2 h2 f2 => ?_)
      have e2 : gI M2 1000 = gI M 1000 := (funext fun i => (f2 1000 i (by decide)).1).trans e1
      refine B_L_law_1350 (by rw [e2]; exact L1) ⟨fun _ => ⟨by omega, nxt _ M2 z (w_put hw) (h1.fr f2 h2.1) h2 e2⟩, fun q => absurd rfl q⟩
    · intro y
      refine ⟨by omega, ?_⟩
      refine c_move (q := (gI M 1000 (x + 1))) (i := (gI M 1000 (x + 2))) (r := (gI M 1000 (x + 3))) (j := (gI M 1000 (x + 4))) (k := (gI M 1000 (x + 5))) hw hC (fun M1 h1 f1 => ?_)
      have e1 : gI M1 1000 = gI M 1000 := funext fun i => f1 1000 i (by decide)
      refine B_L_law_1384 (by rw [e1]; exact L1) ?_
      rw [e1]
      refine ⟨by omega, ?_⟩
      refine r_move (q := (gI M 1000 (x + 1))) (i := (gI M 1000 (x + 2))) (r := (gI M 1000 (x + 3))) (j := (gI M 1000 (x + 4))) (k := (gI M 1000 (x + 5))) hw (hR.fr f1 h1.1) (fun M2 h2 f2 => ?_)
      have e2 : gI M2 1000 = gI M 1000 := (funext fun i => (f2 1000 i (by decide)).1).trans e1
      refine B_L_law_1413 (by rw [e2]; exact L1) ⟨fun _ => ⟨by omega, nxt _ M2 z (w_move hw) (h1.fr f2 h2.1) h2 e2⟩, fun q => absurd rfl q⟩
    · intro y
      refine c_image  hw hC (fun M1 h1 f1 => ?_)
      have e1 : gI M1 1000 = gI M 1000 := funext fun i => f1 1000 i (by decide)
      refine B_L_law_1422 (by rw [e1]; exact L1) ?_
      refine r_image  hw (hR.fr f1 h1.1) (fun M2 h2 f2 => ?_)
      have e2 : gI M2 1000 = gI M 1000 := (funext fun i => (f2 1000 i (by decide)).1).trans e1
      refine B_L_law_1426 (by rw [e2]; exact L1) ⟨fun _ => ⟨by omega, nxt _ M2 z (w_image hw) (h1.fr f2 h2.1) h2 e2⟩, fun q => absurd rfl q⟩
    · intro y
      refine c_restore  hw hC (fun M1 h1 f1 => ?_)
      have e1 : gI M1 1000 = gI M 1000 := funext fun i => f1 1000 i (by decide)
      refine B_L_law_1435 (by rw [e1]; exact L1) ?_
      refine r_restore  hw (hR.fr f1 h1.1) (fun M2 h2 f2 => ?_)
      have e2 : gI M2 1000 = gI M 1000 := (funext fun i => (f2 1000 i (by decide)).1).trans e1
      refine B_L_law_1439 (by rw [e2]; exact L1) ⟨fun _ => ⟨by omega, nxt _ M2 z (w_restore hw) (h1.fr f2 h2.1) h2 e2⟩, fun q => absurd rfl q⟩
    · intro y
      refine ⟨by omega, ?_⟩
      refine c_told (k := (gI M 1000 (x + 1))) hw hC (fun M1 h1 f1 => ?_)
      have e1 : gI M1 1000 = gI M 1000 := funext fun i => f1 1000 i (by decide)
      refine B_L_law_1453 (by rw [e1]; exact L1) ?_
      rw [e1]
      refine ⟨by omega, ?_⟩
      refine r_told (k := (gI M 1000 (x + 1))) hw (hR.fr f1 h1.1) (fun M2 h2 f2 => ?_)
      have e2 : gI M2 1000 = gI M 1000 := (funext fun i => (f2 1000 i (by decide)).1).trans e1
      refine B_L_law_1462 (by rw [e2]; exact L1) ⟨fun _ => ⟨by omega, nxt _ M2 z (w_told hw) (h1.fr f2 h2.1) h2 e2⟩, fun q => absurd rfl q⟩
    · intro y
      refine ⟨by omega, ?_⟩
      refine c_found (k := (gI M 1000 (x + 1))) hC (fun M1 h1 f1 => ?_)
      have e1 : gI M1 1000 = gI M 1000 := funext fun i => f1 1000 i (by decide)
      refine B_L_law_1476 (by rw [e1]; exact L1) ?_
      rw [e1]
      refine ⟨by omega, ?_⟩
      refine r_found (k := (gI M 1000 (x + 1))) (hR.fr f1 h1.1) (fun M2 h2 f2 => ?_)
      have e2 : gI M2 1000 = gI M 1000 := (funext fun i => (f2 1000 i (by decide)).1).trans e1
      refine B_L_law_1485 (by rw [e2]; exact L1) ⟨fun _ => ⟨by omega, nxt _ M2 z (w_found hw) (h1.fr f2 h2.1) h2 e2⟩, fun q => absurd rfl q⟩
    · intro y
      exact ⟨by omega, nxt s M z hw hC hR rfl⟩
end LAW
