/-! ===== how late it can be ===== -/
section BD
variable {n : Int → Int}
theorem cE_b {kd : Int} : ∀ (f : Nat) (left day : Int), day ≤ cE n kd f left day ∧ cE n kd f left day ≤ day + f
  | 0, left, day => by
    show day ≤ day ∧ day ≤ day + ((0 : Nat) : Int)
    omega
  | f + 1, left, day => by
    have h := cE_b (kd := kd) f (if goe n kd day = true then left - 1 else left) (day + 1)
    unfold cE
    split <;> omega
theorem cEnd_b {kd frm days : Int} (d0 : 0 ≤ days) : frm ≤ cEnd n kd frm days ∧ cEnd n kd frm days ≤ frm + 7 * days + 7000 := by
  unfold cEnd
  split
  · omega
  · have := cE_b (n := n) (kd := kd) (7 * days + 7000).toNat days frm
    omega
theorem rdy_b {e : Int → Int} {w B : Int} (wl : wLnk n) (hB : 0 ≤ B) (h : ∀ i, lnk n i w → 0 ≤ e i ∧ e i ≤ B) : ∀ j : Nat, (j : Int) ≤ n 3 → 0 ≤ rdy n e w j ∧ rdy n e w j ≤ B + 20
  | 0, _ => by
    show (0 : Int) ≤ 0 ∧ (0 : Int) ≤ B + 20
    omega
  | j + 1, hj => by
    have ih := rdy_b wl hB h j (by omega)
    unfold rdy
    split
    · rename_i c
      have h1 := h _ ⟨j, by omega, by omega, rfl, c⟩
      have h2 := (wl.2.1 j (by omega) (by omega)).2.2
      omega
    · exact ih
theorem eK_b {nd : Int → Int} {D : Int} (wl : wLnk n) (hd : ∀ w, 0 ≤ w → w < n 2 → 0 ≤ nd w ∧ nd w ≤ D) (hD : 0 ≤ D) : ∀ (k : Nat) (w : Int), 0 ≤ w → w < n 2 → 0 ≤ eK n nd k w ∧ eK n nd k w ≤ k * (7 * D + 7020)
  | 0, w, _, _ => by
    show (0 : Int) ≤ 0 ∧ (0 : Int) ≤ ((0 : Nat) : Int) * _
    rw [show ((0 : Nat) : Int) = 0 from rfl, Int.zero_mul]
    omega
  | k + 1, w, w0, w1 => by
    have h3 := wl.1
    have hB : 0 ≤ (k : Int) * (7 * D + 7020) := Int.mul_nonneg (by omega) (by omega)
    have h := rdy_b (w := w) (e := eK n nd k) wl hB (fun i hi => by have := lnk_in wl hi; exact eK_b wl hd hD k i this.1.1 this.1.2) (n 3).toNat (by omega)
    have hw := hd w w0 w1
    have hc := cEnd_b (n := n) (kd := n (10 + 3 * w)) (frm := rdy n (eK n nd k) w (n 3).toNat) hw.1
    rw [show (((k + 1 : Nat) : Int)) * (7 * D + 7020) = (k : Int) * (7 * D + 7020) + (7 * D + 7020) by rw [show (((k + 1 : Nat) : Int)) = (k : Int) + 1 by omega, Int.add_mul, Int.one_mul]]
    show 0 ≤ cEnd _ _ _ _ ∧ cEnd _ _ _ _ ≤ _
    omega
end BD
