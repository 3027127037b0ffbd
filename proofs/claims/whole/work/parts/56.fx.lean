/-! ===== the ends keep what they say of each other ===== -/
section FX
variable {n : Int → Int}
theorem rdy_cg {e e' : Int → Int} {w : Int} (h : ∀ i, lnk n i w → e' i = e i) : ∀ j : Nat, (j : Int) ≤ n 3 → rdy n e' w j = rdy n e w j
  | 0, _ => rfl
  | j + 1, hj => by
    unfold rdy
    rw [rdy_cg h j (by omega)]
    split
    · rename_i c
      rw [h _ ⟨j, by omega, by omega, rfl, c⟩]
    · rfl
theorem eK_st {nd : Int → Int} (wl : wLnk n) {rk : Int → Int} (r1 : ∀ w, 0 ≤ rk w) (r2 : ∀ i j, lnk n i j → rk i < rk j) : ∀ (k : Nat) (w : Int), rk w < k → eK n nd (k + 1) w = eK n nd k w
  | 0, w, h => by
    have := r1 w
    omega
  | k + 1, w, h => by
    have h3 := wl.1
    show cEnd n (n (10 + 3 * w)) (rdy n (eK n nd (k + 1)) w (n 3).toNat) (nd w) = cEnd n (n (10 + 3 * w)) (rdy n (eK n nd k) w (n 3).toNat) (nd w)
    rw [rdy_cg (e := eK n nd k) (fun i hi => eK_st wl r1 r2 k i (by have := r2 i w hi; omega)) _ (by omega)]
/-- ENDS by READY, READY by ENDS -/
theorem eW_eq {nd : Int → Int} (wl : wLnk n) (w : Int) : eW n nd w = cEnd n (n (10 + 3 * w)) (rW n nd w) (nd w) := by
  obtain ⟨rk, r1, r2⟩ := wl.2.2.2
  have := eK_st (nd := nd) wl (fun w => (r1 w).1) r2 (17 + (n 2).toNat) w (by have := r1 w; omega)
  unfold eW
  rw [← this]
  rfl
end FX
