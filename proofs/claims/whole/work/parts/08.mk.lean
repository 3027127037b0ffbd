/-! ===== rows of the walk: new arrays, arraycopy, Object's own start ===== -/
section MK
variable {d cb sb : Nat} {k : Md} {pc : Nat} {lo : List Lv} {st : List Mv} {M : Mm} {Q : Mm → Option Mv → Prop}
theorem cy_eq {D : va_G} {cy : Nat → ClassId} {s : State} {cA : ClassId} {i : Nat} {ty : FieldType} (hi : (tyL cy)[i]? = some (cy i, ty)) (hty : ∀ C, ty ≠ .object C) (h : va_K D vwCl (tyL cy) s) (h2 : va_K D vwCl (tyL cy ++ [(cA, ty)]) s) : cA = cy i := by
  have a1 := (h.2 i _ hi).2
  have a2 := (h2.2 4 (cA, ty) (by simp [tyL])).2
  cases ty <;> first | (have e := a1.symm.trans a2; exact (Option.some.inj e).symm) | exact absurd rfl (hty _)
theorem cy_eqO {D : va_G} {cy : Nat → ClassId} {s : State} {cA : ClassId} (h : va_K D vwCl (tyL cy) s) (h2 : va_K D vwCl (tyL cy ++ [(cA, .object "WhoseDelay$Sheet")]) s) : cA = cy 3 := by
  obtain ⟨_, _, _, _, _, a1⟩ := (h.2 3 (cy 3, .object "WhoseDelay$Sheet") rfl).2
  obtain ⟨_, _, _, _, _, a2⟩ := (h2.2 4 (cA, .object "WhoseDelay$Sheet") (by simp [tyL])).2
  exact (Option.some.inj (a1.symm.trans a2)).symm
theorem wq_newarr {a N j t : Nat} {x : Int} {aty : ArrayType} {ty : FieldType} {v0 : vp_A} (hd : decode k.2.1 pc = .ok (.newarray aty, 2)) (hw : Cond.arrayClass (newarray.typeOf aty) ∈ gw) (hty : newarray.typeOf aty = ty) (hn : nx M = a) (ha : sh a = (t, N)) (ht : t < 99) (hx : x = N) (hN : N ≤ 2000) (hby : componentBytes ty ≤ 8)
    (hi : ∀ cy, (tyL cy)[j]? = some (cy j, ty)) (hto : ∀ C, ty ≠ .object C) (hv : ∀ cA : ClassId, vp_cell cA v0 = arrV cA N (fun _ => defaultValue ty))
    (he : ∀ (cy : Nat → ClassId) (ρ : Nat → Nat) (M' : Mm), (∀ i, gI M' a i = 0 ∧ gL M' a i = 0) → en cy ρ M' a = .inl (cy j, v0)) (h : Wq d cb sb k (pc + 2) lo (vR a :: st) (aN M) Q) : Wq d (cb + 1) (sb + N) k pc lo (vI x :: st) M Q := by
  intro l p e R s m args below meth c A D cy X QQ ρ0 n0 mc ms G H locs cells slots ρ ls Y hc hs L
  subst hn
  subst hx
  have hM := Y.2.2.2.1
  have hlt := nx_lt hM ha ht
  have hz := hM.2.2.2.2.1 (nx M) (Nat.le_refl _) (by omega)
  have hR := G.2.2.2.2.1
  have hNr : inR (N : Int) := ⟨by omega, by omega⟩
  refine va_newa (N' := N) (a0 := v0) G.1.1 G.1.2.1 (G.1.2.2.2.2.1 _ hw) hty G.2.1 Y.1 Y.2.1 Y.2.2.1 G.2.2.1 hv (fun q => ?_) (by have := of_clamp hNr (by omega); omega) ?_ (by omega) (by omega) hd (fun q cA H1 hK2 hP hD hS => ?_)
  · have := (of_lt (x := (N : Int)) (y := 0) hNr ⟨by decide, by decide⟩).mp (by rw [of_0]; exact q)
    omega
  · have : N * componentBytes ty ≤ N * 8 := Nat.mul_le_mul_left N hby
    omega
  · have hcA : cA = cy j := cy_eq (hi cy) hto G.2.1 hK2
    subst hcA
    have hen : en cy (rN ρ (nx M) q) (aN M) (nx M) = .inl (cy j, v0) := he cy _ (aN M) (fun i => ⟨(hz i).1, (hz i).2.1⟩)
    have K := h l p e R s m args below meth c A D cy X QQ ρ0 n0 mc ms G H1 locs (cells + 1) (slots + N) (rN ρ (nx M) q) ls (Y.new hlt hen hP hD hS) (by omega) (by omega) ((L.rho (n' := nx M + 1) (by omega) (rN_old (q := q) (by omega))).to (ok_c (v := vR (nx M)) (Or.inl (Nat.lt_succ_self _)) (fun w hw => okv_mono (by omega) (ok_t L.2.2 w hw))))
    rw [List.map_cons, st_rho (ok_t L.2.2) (rN_old (q := q) (by omega)), show tv (rN ρ (nx M) q) (vR (nx M)) = .ref q from congrArg Value.ref (if_pos rfl)] at K
    exact K
theorem wq_newI {a N : Nat} {x : Int} (hd : decode k.2.1 pc = .ok (.newarray .int, 2)) (hw : Cond.arrayClass .int ∈ gw) (hn : nx M = a) (ha : sh a = (20, N)) (hx : x = N) (hN : N ≤ 2000) (h : Wq d cb sb k (pc + 2) lo (vR a :: st) (aN M) Q) : Wq d (cb + 1) (sb + N) k pc lo (vI x :: st) M Q :=
  wq_newarr (j := 0) (ty := .int) (v0 := (N, .inl (fun _ => 0))) hd hw rfl hn ha (by omega) hx hN (by decide) (fun _ => rfl) (fun _ => by simp) (fun cA => by rw [vp_cell_i]; rfl) (fun cy ρ M' hz => by rw [en_i ha]; simp only [fun i => (hz i).1]; rfl) h
theorem wq_newB {a N : Nat} {x : Int} (hd : decode k.2.1 pc = .ok (.newarray .byte, 2)) (hw : Cond.arrayClass .byte ∈ gw) (hn : nx M = a) (ha : sh a = (22, N)) (hx : x = N) (hN : N ≤ 2000) (h : Wq d cb sb k (pc + 2) lo (vR a :: st) (aN M) Q) : Wq d (cb + 1) (sb + N) k pc lo (vI x :: st) M Q :=
  wq_newarr (j := 2) (ty := .byte) (v0 := (N, .inl (fun _ => 0))) hd hw rfl hn ha (by omega) hx hN (by decide) (fun _ => rfl) (fun _ => by simp) (fun cA => by rw [vp_cell_i]; rfl) (fun cy ρ M' hz => by rw [en_b ha]; simp only [fun i => (hz i).1]; rfl) h
theorem wq_newL {a N : Nat} {x : Int} (hd : decode k.2.1 pc = .ok (.newarray .long, 2)) (hw : Cond.arrayClass .long ∈ gw) (hn : nx M = a) (ha : sh a = (21, N)) (hx : x = N) (hN : N ≤ 2000) (h : Wq d cb sb k (pc + 2) lo (vR a :: st) (aN M) Q) : Wq d (cb + 1) (sb + N) k pc lo (vI x :: st) M Q :=
  wq_newarr (j := 1) (ty := .long) (v0 := (N, .inr (.inl (fun _ => 0)))) hd hw rfl hn ha (by omega) hx hN (by decide) (fun _ => rfl) (fun _ => by simp) (fun cA => by rw [vp_cell_l]; rfl) (fun cy ρ M' hz => by rw [en_l ha]; simp only [fun i => (hz i).2]; rfl) h
/-- Sheet[]: its word 'arrayOver' is no good word; it is asked of the start -/
theorem wq_newQ {a N idx : Nat} {x : Int} (hd : decode k.2.1 pc = .ok (.anewarray idx, 3)) (hw : Cond.classLink k.1.cls idx "WhoseDelay$Sheet" ∈ gw) (hn : nx M = a) (ha : sh a = (23, N)) (hx : x = N) (hN : N ≤ 2000) (h : Wq d cb sb k (pc + 3) lo (vR a :: st) (aN M) Q)
    (hov : ∀ (s : State) (cy : Nat → ClassId) (D : va_G), va_K D vwCl (tyL cy) s → va_AO "WhoseDelay$Sheet" s) : Wq d (cb + 1) (sb + N) k pc lo (vI x :: st) M Q := by
  intro l p e R s m args below meth c A D cy X QQ ρ0 n0 mc ms G H locs cells slots ρ ls Y hc hs L
  subst hn
  subst hx
  have hM := Y.2.2.2.1
  have hlt := nx_lt hM ha (by omega)
  have hz := hM.2.2.2.2.1 (nx M) (Nat.le_refl _) (by omega)
  have hR := G.2.2.2.2.1
  have hNr : inR (N : Int) := ⟨by omega, by omega⟩
  refine va_newq (N' := N) G.1.1 G.1.2.1 G.1.2.2.2.1 (G.1.2.2.2.2.1 _ hw) (hov s cy D G.2.1) G.2.1 Y.1 Y.2.1 Y.2.2.1 G.2.2.1 (fun q => ?_) (by have := of_clamp hNr (by omega); omega) (by omega) (by omega) (by omega) hd (fun q cA H1 hK2 hP hD hS => ?_)
  · have := (of_lt (x := (N : Int)) (y := 0) hNr ⟨by decide, by decide⟩).mp (by rw [of_0]; exact q)
    omega
  · have hcA : cA = cy 3 := cy_eqO G.2.1 hK2
    subst hcA
    have hen : en cy (rN ρ (nx M) q) (aN M) (nx M) = .inl (cy 3, N, .inr (.inr (.inr (.inr (fun _ => none))))) := by
      rw [en_q ha]
      simp only [show ∀ j : Int, gR (aN M) (nx M) j = none from fun j => (hz j).2.2]
      rfl
    have K := h l p e R s m args below meth c A D cy X QQ ρ0 n0 mc ms G H1 locs (cells + 1) (slots + N) (rN ρ (nx M) q) ls (Y.new hlt hen hP hD hS) (by omega) (by omega) ((L.rho (n' := nx M + 1) (by omega) (rN_old (q := q) (by omega))).to (ok_c (v := vR (nx M)) (Or.inl (Nat.lt_succ_self _)) (fun w hw => okv_mono (by omega) (ok_t L.2.2 w hw))))
    rw [List.map_cons, st_rho (ok_t L.2.2) (rN_old (q := q) (by omega)), show tv (rN ρ (nx M) q) (vR (nx M)) = .ref q from congrArg Value.ref (if_pos rfl)] at K
    exact K
theorem wq_objInit {idx a : Nat} (hd : decode k.2.1 pc = .ok (.invokespecial idx, 3)) (hl : Cond.methodLink k.1.cls idx Lib.objectInit ∈ gw) (hi : Cond.instanceMethod Lib.objectInit ∈ gw) (hcd : Cond.code Lib.objectInit ⟨#[0xb1]⟩ 1 none ∈ gw) (hst : ((st.map catM).sum).ble 8 = true) (h : Wq (d + 1) cb sb k (pc + 3) lo st M Q) : Wq (d + 1) cb sb k pc lo (vR a :: st) M Q := by
  intro l p e R s m args below meth c A D cy X QQ ρ0 n0 mc ms G H locs cells slots ρ ls Y hc hs L
  have hR := G.2.2.2.2.1
  have hsum : ((st.map (tv ρ)).map fun v => v.category) = st.map catM := by rw [List.map_map]; exact List.map_congr_left (fun v _ => catM_tv ρ v)
  refine W.objInit (rest := st.map (tv ρ)) G.1.1 G.1.2.1 G.1.2.2.2.1 (G.1.2.2.2.2.1 _ hl) (G.1.2.2.2.2.1 _ hi) (G.1.2.2.2.2.1 _ hcd) rfl (by rw [G.1.2.2.1]; exact L.1.2.1) rfl hd (by omega) ?_ ?_
  · show 2 * 0 + _ + 12 ≤ _
    rw [hsum]
    have := Nat.le_of_ble_eq_true hst
    omega
  · exact h l p e R s m args below meth c A D cy X QQ ρ0 n0 mc ms G H locs cells slots ρ ls Y hc hs (L.to (ok_t L.2.2))
end MK
