/-! ===== rows of the walk: new arrays, arraycopy, Object's own start ===== -/
section MK
variable {d cb sb : Nat} {k : Md} {pc : Nat} {lo : List Lv} {st : List Mv} {M : Mm} {Q : Mm → Option Mv → Prop}
theorem cy_eq {D : va_G} {cy : Nat → ClassId} {s : State} {cA : ClassId} {i : Nat} {ty : FieldType} (hi : (tyL cy)[i]? = some (cy i, ty)) (hty : ∀ C, ty ≠ .object C) (h : va_K D vwCl (tyL cy) s) (h2 : va_K D vwCl (tyL cy ++ [(cA, ty)]) s) : cA = cy i := by
  have a1 := (h.2 i _ hi).2
  have a2 := (h2.2 4 (cA, ty) (by simp [tyL])).2
  cases ty <;> first | (have e := a1.symm.trans a2; exact (Option.some.inj e).symm) | exact absurd rfl (hty _)
theorem cy_eqO {D : va_G} {cy : Nat → ClassId} {s : State} {cA : ClassId} (h : va_K D vwCl (tyL cy) s) (h2 : va_K D vwCl (tyL cy ++ [(cA, .object "WhoseDelay$Sheet")]) s) : cA = cy 3 := by
  obtain ⟨_, _, _, _, _, a1⟩ := (h.2 3 (cy 3, .object "WhoseDelay$Sheet") rfl).2
  obtain ⟨_, _, _, _, _, a2⟩ := (h2.2 4 (cA, .object "WhoseDelay$Sheet") (by simp [tyL])).2
  exact (Option.some.inj (a1.symm.trans a2)).symm
theorem wq_newarr {a N j t : Nat} {x : Int} {aty : ArrayType} {ty : FieldType} {v0 : vp_A} (hd : decode k.2.1 pc = .ok (.newarray aty, 2)) (hw : Cond.arrayClass (newarray.typeOf aty) ∈ gw) (hty : newarray.typeOf aty = ty) (hn : nx M = a) (ha : sh a = (t, N)) (ht : t < 99) (hx : x = N) (hN : N ≤ 2000) (hby : componentBytes ty ≤ 8)
    (hi : ∀ cy, (tyL cy)[j]? = some (cy j, ty)) (hto : ∀ C, ty ≠ .object C) (hv : ∀ cA : ClassId, vp_cell cA v0 = arrV cA N (fun _ => defaultValue ty))
    (he : ∀ (cy : Nat → ClassId) (ρ : Nat → Nat) (M' : Mm), (∀ i, gI M' a i = 0 ∧ gL M' a i = 0) → en cy ρ M' a = .inl (cy j, v0)) (h : Wq d cb sb k (pc + 2) lo (vR a :: st) (aN M) Q) : Wq d (cb + 1) (sb + N) k pc lo (vI x :: st) M Q := by
  intro l p e R s m args below meth c A D cy X QQ ρ0 n0 mc ms G H locs cells slots ρ ls Y hc hs L
  subst hn
  subst hx
  have hM := Y.2.2.2.1
  have hlt := nx_lt hM ha ht
  have hz := hM.2.2.2.2.1 (nx M) (Nat.le_refl _) (by omega)
  have hR := G.2.2.2.2.1
  have hNr : inR (N : Int) := ⟨by omega, by omega⟩
  refine va_newa (N' := N) (a0 := v0) G.1.1 G.1.2.1 (G.1.2.2.2.2.1 _ hw) hty G.2.1 Y.1 Y.2.1 Y.2.2.1 G.2.2.1 hv (fun q => ?_) (by have := of_clamp hNr (by omega); omega) ?_ (by omega) (by omega) hd (fun q cA H1 hK2 hP hD hS => ?_)
  · have := (of_lt (x := (N : Int)) (y := 0) hNr ⟨by decide, by decide⟩).mp (by rw [of_0]; exact q)
    omega
  · have : N * componentBytes ty ≤ N * 8 := Nat.mul_le_mul_left N hby
    omega
  · have hcA : cA = cy j := cy_eq (hi cy) hto G.2.1 hK2
    subst hcA
    have hen : en cy (rN ρ (nx M) q) (aN M) (nx M) = .inl (cy j, v0) := he cy _ (aN M) (fun i => ⟨(hz i).1, (hz i).2.1⟩)
    have K := h l p e R s m args below meth c A D cy X QQ ρ0 n0 mc ms G H1 locs (cells + 1) (slots + N) (rN ρ (nx M) q) ls (Y.new hlt hen hP hD hS) (by omega) (by omega) ((L.rho (n' := nx M + 1) (by omega) (rN_old (q := q) (by omega))).to (ok_c (v := vR (nx M)) (Or.inl (Nat.lt_succ_self _)) (fun w hw => okv_mono (by omega) (ok_t L.2.2 w hw))))
    rw [List.map_cons, st_rho (ok_t L.2.2) (rN_old (q := q) (by omega)), show tv (rN ρ (nx M) q) (vR (nx M)) = .ref q from congrArg Value.ref (if_pos rfl)] at K
    exact K
theorem wq_newI {a N : Nat} {x : Int} (hd : decode k.2.1 pc = .ok (.newarray .int, 2)) (hw : Cond.arrayClass .int ∈ gw) (hn : nx M = a) (ha : sh a = (20, N)) (hx : x = N) (hN : N ≤ 2000) (h : Wq d cb sb k (pc + 2) lo (vR a :: st) (aN M) Q) : Wq d (cb + 1) (sb + N) k pc lo (vI x :: st) M Q :=
  wq_newarr (j := 0) (ty := .int) (v0 := (N, .inl (fun _ => 0))) hd hw rfl hn ha (by omega) hx hN (by decide) (fun _ => rfl) (fun _ => by simp) (fun cA => by rw [vp_cell_i]; rfl) (fun cy ρ M' hz => by rw [en_i ha]; simp only [fun i => (hz i).1]; rfl) h
theorem wq_newB {a N : Nat} {x : Int} (hd : decode k.2.1 pc = .ok (.newarray .byte, 2)) (hw : Cond.arrayClass .byte ∈ gw) (hn : nx M = a) (ha : sh a = (22, N)) (hx : x = N) (hN : N ≤ 2000) (h : Wq d cb sb k (pc + 2) lo (vR a :: st) (aN M) Q) : Wq d (cb + 1) (sb + N) k pc lo (vI x :: st) M Q :=
  wq_newarr (j := 2) (ty := .byte) (v0 := (N, .inl (fun _ => 0))) hd hw rfl hn ha (by omega) hx hN (by decide) (fun _ => rfl) (fun _ => by simp) (fun cA => by rw [vp_cell_i]; rfl) (fun cy ρ M' hz => by rw [en_b ha]; simp only [fun i => (hz i).1]; rfl) h
theorem wq_newL {a N : Nat} {x : Int} (hd : decode k.2.1 pc = .ok (.newarray .long, 2)) (hw : Cond.arrayClass .long ∈ gw) (hn : nx M = a) (ha : sh a = (21, N)) (hx : x = N) (hN : N ≤ 2000) (h : Wq d cb sb k (pc + 2) lo (vR a :: st) (aN M) Q) : Wq d (cb + 1) (sb + N) k pc lo (vI x :: st) M Q :=
  wq_newarr (j := 1) (ty := .long) (v0 := (N, .inr (.inl (fun _ => 0)))) hd hw rfl hn ha (by omega) hx hN (by decide) (fun _ => rfl) (fun _ => by simp) (fun cA => by rw [vp_cell_l]; rfl) (fun cy ρ M' hz => by rw [en_l ha]; simp only [fun i => (hz i).2]; rfl) h
theorem wq_newQ {a N idx : Nat} {x : Int} (hd : decode k.2.1 pc = .ok (.anewarray idx, 3)) (hw : Cond.classLink k.1.cls idx "WhoseDelay$Sheet" ∈ gw) (hn : nx M = a) (ha : sh a = (23, N)) (hx : x = N) (hN : N ≤ 2000) (h : Wq d cb sb k (pc + 3) lo (vR a :: st) (aN M) Q) : Wq d (cb + 1) (sb + N) k pc lo (vI x :: st) M Q := by
  intro l p e R s m args below meth c A D cy X QQ ρ0 n0 mc ms G H locs cells slots ρ ls Y hc hs L
  subst hn
  subst hx
  have hM := Y.2.2.2.1
  have hlt := nx_lt hM ha (by omega)
  have hz := hM.2.2.2.2.1 (nx M) (Nat.le_refl _) (by omega)
  have hR := G.2.2.2.2.1
  have hNr : inR (N : Int) := ⟨by omega, by omega⟩
  refine va_newq (N' := N) G.1.1 G.1.2.1 G.1.2.2.2.1 (G.1.2.2.2.2.1 _ hw) G.2.2.2.1.2.2.2 G.2.1 Y.1 Y.2.1 Y.2.2.1 G.2.2.1 (fun q => ?_) (by have := of_clamp hNr (by omega); omega) (by omega) (by omega) (by omega) hd (fun q cA H1 hK2 hP hD hS => ?_)
  · have := (of_lt (x := (N : Int)) (y := 0) hNr ⟨by decide, by decide⟩).mp (by rw [of_0]; exact q)
    omega
  · have hcA : cA = cy 3 := cy_eqO G.2.1 hK2
    subst hcA
    have hen : en cy (rN ρ (nx M) q) (aN M) (nx M) = .inl (cy 3, N, .inr (.inr (.inr (.inr (fun _ => none))))) := by
      rw [en_q ha]
      simp only [show ∀ j : Int, gR (aN M) (nx M) j = none from fun j => (hz j).2.2]
      rfl
    have K := h l p e R s m args below meth c A D cy X QQ ρ0 n0 mc ms G H1 locs (cells + 1) (slots + N) (rN ρ (nx M) q) ls (Y.new hlt hen hP hD hS) (by omega) (by omega) ((L.rho (n' := nx M + 1) (by omega) (rN_old (q := q) (by omega))).to (ok_c (v := vR (nx M)) (Or.inl (Nat.lt_succ_self _)) (fun w hw => okv_mono (by omega) (ok_t L.2.2 w hw))))
    rw [List.map_cons, st_rho (ok_t L.2.2) (rN_old (q := q) (by omega)), show tv (rN ρ (nx M) q) (vR (nx M)) = .ref q from congrArg Value.ref (if_pos rfl)] at K
    exact K
theorem wq_objInit {idx a : Nat} (hd : decode k.2.1 pc = .ok (.invokespecial idx, 3)) (hl : Cond.methodLink k.1.cls idx Lib.objectInit ∈ gw) (hi : Cond.instanceMethod Lib.objectInit ∈ gw) (hcd : Cond.code Lib.objectInit ⟨#[0xb1]⟩ 1 none ∈ gw) (hst : ((st.map catM).sum).ble 8 = true) (h : Wq (d + 1) cb sb k (pc + 3) lo st M Q) : Wq (d + 1) cb sb k pc lo (vR a :: st) M Q := by
  intro l p e R s m args below meth c A D cy X QQ ρ0 n0 mc ms G H locs cells slots ρ ls Y hc hs L
  have hR := G.2.2.2.2.1
  have hsum : ((st.map (tv ρ)).map fun v => v.category) = st.map catM := by rw [List.map_map]; exact List.map_congr_left (fun v _ => catM_tv ρ v)
  refine W.objInit (rest := st.map (tv ρ)) G.1.1 G.1.2.1 G.1.2.2.2.1 (G.1.2.2.2.2.1 _ hl) (G.1.2.2.2.2.1 _ hi) (G.1.2.2.2.2.1 _ hcd) rfl (by rw [G.1.2.2.1]; exact L.1.2.1) rfl hd (by omega) ?_ ?_
  · show 2 * 0 + _ + 12 ≤ _
    rw [hsum]
    have := Nat.le_of_ble_eq_true hst
    omega
  · exact h l p e R s m args below meth c A D cy X QQ ρ0 n0 mc ms G H locs cells slots ρ ls Y hc hs (L.to (ok_t L.2.2))
theorem cpy_eq {M : Mm} {a b : Nat} {sp dp n : Int} (h1 : inR sp) (h2 : inR dp) (h3 : inR n) (p1 : 0 ≤ sp) (p2 : 0 ≤ dp) (p3 : 0 ≤ n) : va_cpy (fun j : Nat => Int32.ofInt (gI M a j)) (fun j : Nat => Int32.ofInt (gI M b j)) (Int32.ofInt sp).toNatClampNeg (Int32.ofInt dp).toNatClampNeg (Int32.ofInt n).toNatClampNeg = fun j : Nat => Int32.ofInt (gI (cI M a sp b dp n) b j) := by
  funext j
  have e1 := of_clamp h1 p1
  have e2 := of_clamp h2 p2
  have e3 := of_clamp h3 p3
  unfold va_cpy gI cI
  by_cases hj : (Int32.ofInt dp).toNatClampNeg ≤ j ∧ j < (Int32.ofInt dp).toNatClampNeg + (Int32.ofInt n).toNatClampNeg
  · have hj2 : b = b ∧ dp ≤ (j : Int) ∧ (j : Int) < dp + n := ⟨rfl, by omega, by omega⟩
    have hidx : (((Int32.ofInt sp).toNatClampNeg + (j - (Int32.ofInt dp).toNatClampNeg) : Nat) : Int) = sp + ((j : Int) - dp) := by omega
    rw [if_pos hj]
    show Int32.ofInt (M.2.1 a _) = Int32.ofInt (if b = b ∧ dp ≤ (j : Int) ∧ (j : Int) < dp + n then M.2.1 a (sp + ((j : Int) - dp)) else M.2.1 b j)
    rw [if_pos hj2, hidx]
  · have hj2 : ¬ (b = b ∧ dp ≤ (j : Int) ∧ (j : Int) < dp + n) := fun q => hj ⟨by omega, by omega⟩
    rw [if_neg hj]
    show Int32.ofInt (M.2.1 b j) = Int32.ofInt (if b = b ∧ dp ≤ (j : Int) ∧ (j : Int) < dp + n then M.2.1 a (sp + ((j : Int) - dp)) else M.2.1 b j)
    rw [if_neg hj2]
theorem cpyL_eq {M : Mm} {a b : Nat} {sp dp n : Int} (h1 : inR sp) (h2 : inR dp) (h3 : inR n) (p1 : 0 ≤ sp) (p2 : 0 ≤ dp) (p3 : 0 ≤ n) : va_cpy (fun j : Nat => Int64.ofInt (gL M a j)) (fun j : Nat => Int64.ofInt (gL M b j)) (Int32.ofInt sp).toNatClampNeg (Int32.ofInt dp).toNatClampNeg (Int32.ofInt n).toNatClampNeg = fun j : Nat => Int64.ofInt (gL (cL M a sp b dp n) b j) := by
  funext j
  have e1 := of_clamp h1 p1
  have e2 := of_clamp h2 p2
  have e3 := of_clamp h3 p3
  unfold va_cpy gL cL
  by_cases hj : (Int32.ofInt dp).toNatClampNeg ≤ j ∧ j < (Int32.ofInt dp).toNatClampNeg + (Int32.ofInt n).toNatClampNeg
  · have hj2 : b = b ∧ dp ≤ (j : Int) ∧ (j : Int) < dp + n := ⟨rfl, by omega, by omega⟩
    have hidx : (((Int32.ofInt sp).toNatClampNeg + (j - (Int32.ofInt dp).toNatClampNeg) : Nat) : Int) = sp + ((j : Int) - dp) := by omega
    rw [if_pos hj]
    show Int64.ofInt (M.2.2.1 a _) = Int64.ofInt (if b = b ∧ dp ≤ (j : Int) ∧ (j : Int) < dp + n then M.2.2.1 a (sp + ((j : Int) - dp)) else M.2.2.1 b j)
    rw [if_pos hj2, hidx]
  · have hj2 : ¬ (b = b ∧ dp ≤ (j : Int) ∧ (j : Int) < dp + n) := fun q => hj ⟨by omega, by omega⟩
    rw [if_neg hj]
    show Int64.ofInt (M.2.2.1 b j) = Int64.ofInt (if b = b ∧ dp ≤ (j : Int) ∧ (j : Int) < dp + n then M.2.2.1 a (sp + ((j : Int) - dp)) else M.2.2.1 b j)
    rw [if_neg hj2]
theorem okM_cI {M : Mm} {a b : Nat} {sp dp n : Int} (h : okM M) (hb : b < nx M) (hs : (sh a).1 = (sh b).1) : okM (cI M a sp b dp n) := by
  obtain ⟨h1, h2, h3, h4, h5, h6⟩ := h
  refine ⟨h1, fun c j => ?_, h3, h4, fun c hb2 hb3 j => ⟨?_, (h5 c hb2 hb3 j).2⟩, fun c j hc => ?_⟩
  · show inR (if c = b ∧ dp ≤ j ∧ j < dp + n then gI M a (sp + (j - dp)) else gI M c j)
    split
    · exact h2 _ _
    · exact h2 c j
  · show (if c = b ∧ dp ≤ j ∧ j < dp + n then gI M a (sp + (j - dp)) else gI M c j) = 0
    have hb2' : nx M ≤ c := hb2
    rw [if_neg (by omega)]
    exact (h5 c hb2 hb3 j).1
  · show -128 ≤ (if c = b ∧ dp ≤ j ∧ j < dp + n then gI M a (sp + (j - dp)) else gI M c j) ∧ (if c = b ∧ dp ≤ j ∧ j < dp + n then gI M a (sp + (j - dp)) else gI M c j) < 128
    split
    · rename_i q
      exact h6 a _ (by rw [hs, ← q.1]; exact hc)
    · exact h6 c j hc
theorem okM_cL {M : Mm} {a b : Nat} {sp dp n : Int} (h : okM M) (hb : b < nx M) : okM (cL M a sp b dp n) := by
  obtain ⟨h1, h2, h3, h4, h5, h6⟩ := h
  refine ⟨h1, h2, fun c j => ?_, h4, fun c hb2 hb3 j => ⟨(h5 c hb2 hb3 j).1, ?_, (h5 c hb2 hb3 j).2.2⟩, h6⟩
  · show inL (if c = b ∧ dp ≤ j ∧ j < dp + n then gL M a (sp + (j - dp)) else gL M c j)
    split
    · exact h3 _ _
    · exact h3 c j
  · show (if c = b ∧ dp ≤ j ∧ j < dp + n then gL M a (sp + (j - dp)) else gL M c j) = 0
    have hb2' : nx M ≤ c := hb2
    rw [if_neg (by omega)]
    exact (h5 c hb2 hb3 j).2.1
theorem not_lt0 {x : Int} (hx : inR x) (h : 0 ≤ x) : ¬ Int32.ofInt x < 0 := fun q => by
  have := (of_lt (x := x) (y := 0) hx ⟨by decide, by decide⟩).mp (by rw [of_0]; exact q)
  omega
theorem fits_byte {z : Int} (h1 : -128 ≤ z) (h2 : z < 128) : fits .byte (.int (Int32.ofInt z)) = true := by
  have hz : inR z := ⟨by omega, by omega⟩
  have e : (Int32.ofInt z).toInt8.toInt32 = Int32.ofInt z := by
    apply Int32.toInt_inj.mp
    rw [Int8.toInt_toInt32, Int32.toInt_toInt8, t_of hz]
    simp only [Int.bmod, Int8.size]
    omega
  rw [← e]
  exact pk_fb _
def acOK (own : String) (idx : Nat) : Prop := Cond.methodLink own idx arraycopyName ∈ gw ∧ Cond.native arraycopyName ∈ gw ∧ Cond.static arraycopyName ∈ gw ∧ Cond.initialized "java/lang/System" ∈ gw
theorem wq_cpI {a b N N' idx : Nat} {sp dp n : Int} (hd : decode k.2.1 pc = .ok (.invokestatic idx, 3)) (hw : acOK k.1.cls idx) (ha : sh a = (20, N) ∧ sh b = (20, N') ∨ sh a = (22, N) ∧ sh b = (22, N')) (la : a < 1000) (lb : b < 1000) (h1 : 0 ≤ sp) (h2 : 0 ≤ dp) (h3 : 0 ≤ n) (h4 : sp + n ≤ N) (h5 : dp + n ≤ N') (hst : ((st.map catM).sum).ble 8 = true) (h : Wq (d + 1) cb sb k (pc + 3) lo st (cI M a sp b dp n) Q) : Wq (d + 1) cb sb k pc lo (vI n :: vI dp :: vR b :: vI sp :: vR a :: st) M Q := by
  intro l p e R s m args below meth c A D cy X QQ ρ0 n0 mc ms G H locs cells slots ρ ls Y hc hs L
  have hM := Y.2.2.2.1
  have hR := G.2.2.2.2.1
  have rn : inR n := ok_h L.2.2
  have rdp : inR dp := ok_h (ok_t L.2.2)
  have rsp : inR sp := ok_h (ok_t (ok_t (ok_t L.2.2)))
  have ob : okv (nx M) (vR b) := ok_h (ok_t (ok_t L.2.2))
  have oa : okv (nx M) (vR a) := ok_h (ok_t (ok_t (ok_t (ok_t L.2.2))))
  have qa : a < nx M := by
    rcases oa with q | q
    · exact q
    · omega
  have qb : b < nx M := by
    rcases ob with q | q
    · exact q
    · omega
  have e1 := of_clamp rsp h1
  have e2 := of_clamp rdp h2
  have e3 := of_clamp rn h3
  have hsum : ((st.map (tv ρ)).map fun v => v.category) = st.map catM := by rw [List.map_map]; exact List.map_congr_left (fun v _ => catM_tv ρ v)
  have hle := Nat.le_of_ble_eq_true hst
  have hnw : nativeFrameWords "java/lang/System" "arraycopy" 5 = 7 := by decide
  have hea := wd_at (cy := cy) (ρ := ρ) qa
  have heb := wd_at (cy := cy) (ρ := ρ) qb
  have hml : c.maxLocals = ls.size := by rw [G.1.2.2.1, L.1.2.1]
  obtain ⟨w1, w2, w3, w4⟩ := hw
  have hw := G.1.2.2.2.2.1
  rcases ha with ⟨ha, hb⟩ | ⟨ha, hb⟩
  · rw [en_i ha] at hea
    rw [en_i hb] at heb
    refine va_copyi (ty := .int) G.1.1 G.1.2.1 hml G.1.2.2.2.1 (hw _ w1) (hw _ w2) (hw _ w3) (hw _ w4) G.2.1 Y.1 Y.2.1 Y.2.2.1 a b 0 0 hea heb rfl rfl rfl (not_lt0 rsp h1) (not_lt0 rdp h2) (not_lt0 rn h3) (by omega) (by omega) (fun _ _ => rfl) (by omega) (by rw [hsum, hnw]; omega) hd (fun H1 locs1 hP hD hS => ?_)
    have hset : (wd cy ρ M).set b (ρ b, .inl (cy 0, N', .inl (va_cpy (fun j : Nat => Int32.ofInt (gI M a j)) (fun j : Nat => Int32.ofInt (gI M b j)) (Int32.ofInt sp).toNatClampNeg (Int32.ofInt dp).toNatClampNeg (Int32.ofInt n).toNatClampNeg))) = wd cy ρ (cI M a sp b dp n) := wd_set rfl (by rw [en_i hb, cpy_eq rsp rdp rn h1 h2 h3]) (fun b' hb' => en_eq (fun j => by simp [gI, cI, hb']) (fun _ => rfl) (fun _ => rfl))
    replace hP : va_P D vwCl (wd cy ρ (cI M a sp b dp n)) H1 := by rw [← hset]; exact hP
    replace hD : va_D A (wd cy ρ (cI M a sp b dp n)) := by rw [← hset]; exact hD
    exact h l p e R s m args below meth c A D cy X QQ ρ0 n0 mc ms G H1 locs1 cells slots ρ ls (Y.wrt rfl (okM_cI hM qb (by rw [ha, hb])) (fun c j hc => if_neg (by omega)) hP hD hS) hc hs ⟨L.1, L.2.1, ok_t (ok_t (ok_t (ok_t (ok_t L.2.2))))⟩
  · rw [en_b ha] at hea
    rw [en_b hb] at heb
    refine va_copyi (ty := .byte) G.1.1 G.1.2.1 hml G.1.2.2.2.1 (hw _ w1) (hw _ w2) (hw _ w3) (hw _ w4) G.2.1 Y.1 Y.2.1 Y.2.2.1 a b 2 2 hea heb rfl rfl rfl (not_lt0 rsp h1) (not_lt0 rdp h2) (not_lt0 rn h3) (by omega) (by omega) (fun i _ => (fun q => fits_byte q.1 q.2) (hM.2.2.2.2.2 a _ (by rw [ha]))) (by omega) (by rw [hsum, hnw]; omega) hd (fun H1 locs1 hP hD hS => ?_)
    have hset : (wd cy ρ M).set b (ρ b, .inl (cy 2, N', .inl (va_cpy (fun j : Nat => Int32.ofInt (gI M a j)) (fun j : Nat => Int32.ofInt (gI M b j)) (Int32.ofInt sp).toNatClampNeg (Int32.ofInt dp).toNatClampNeg (Int32.ofInt n).toNatClampNeg))) = wd cy ρ (cI M a sp b dp n) := wd_set rfl (by rw [en_b hb, cpy_eq rsp rdp rn h1 h2 h3]) (fun b' hb' => en_eq (fun j => by simp [gI, cI, hb']) (fun _ => rfl) (fun _ => rfl))
    replace hP : va_P D vwCl (wd cy ρ (cI M a sp b dp n)) H1 := by rw [← hset]; exact hP
    replace hD : va_D A (wd cy ρ (cI M a sp b dp n)) := by rw [← hset]; exact hD
    exact h l p e R s m args below meth c A D cy X QQ ρ0 n0 mc ms G H1 locs1 cells slots ρ ls (Y.wrt rfl (okM_cI hM qb (by rw [ha, hb])) (fun c j hc => if_neg (by omega)) hP hD hS) hc hs ⟨L.1, L.2.1, ok_t (ok_t (ok_t (ok_t (ok_t L.2.2))))⟩
theorem wq_cpL {a b N N' idx : Nat} {sp dp n : Int} (hd : decode k.2.1 pc = .ok (.invokestatic idx, 3)) (hw : acOK k.1.cls idx) (ha : sh a = (21, N)) (hb : sh b = (21, N')) (h1 : 0 ≤ sp) (h2 : 0 ≤ dp) (h3 : 0 ≤ n) (h4 : sp + n ≤ N) (h5 : dp + n ≤ N') (hst : ((st.map catM).sum).ble 8 = true) (h : Wq (d + 1) cb sb k (pc + 3) lo st (cL M a sp b dp n) Q) : Wq (d + 1) cb sb k pc lo (vI n :: vI dp :: vR b :: vI sp :: vR a :: st) M Q := by
  intro l p e R s m args below meth c A D cy X QQ ρ0 n0 mc ms G H locs cells slots ρ ls Y hc hs L
  have hM := Y.2.2.2.1
  have hR := G.2.2.2.2.1
  have rn : inR n := ok_h L.2.2
  have rdp : inR dp := ok_h (ok_t L.2.2)
  have rsp : inR sp := ok_h (ok_t (ok_t (ok_t L.2.2)))
  have qb : b < nx M := own_lt2 hb (by decide) (ok_h (ok_t (ok_t L.2.2)))
  have qa : a < nx M := own_lt2 ha (by decide) (ok_h (ok_t (ok_t (ok_t (ok_t L.2.2)))))
  have e1 := of_clamp rsp h1
  have e2 := of_clamp rdp h2
  have e3 := of_clamp rn h3
  have hsum : ((st.map (tv ρ)).map fun v => v.category) = st.map catM := by rw [List.map_map]; exact List.map_congr_left (fun v _ => catM_tv ρ v)
  have hle := Nat.le_of_ble_eq_true hst
  have hnw : nativeFrameWords "java/lang/System" "arraycopy" 5 = 7 := by decide
  have hea := wd_at (cy := cy) (ρ := ρ) qa
  have heb := wd_at (cy := cy) (ρ := ρ) qb
  have hml : c.maxLocals = ls.size := by rw [G.1.2.2.1, L.1.2.1]
  obtain ⟨w1, w2, w3, w4⟩ := hw
  have hw := G.1.2.2.2.2.1
  rw [en_l ha] at hea
  rw [en_l hb] at heb
  refine va_copyl (ty := .long) G.1.1 G.1.2.1 hml G.1.2.2.2.1 (hw _ w1) (hw _ w2) (hw _ w3) (hw _ w4) G.2.1 Y.1 Y.2.1 Y.2.2.1 a b 1 1 hea heb rfl rfl rfl (not_lt0 rsp h1) (not_lt0 rdp h2) (not_lt0 rn h3) (by omega) (by omega) (fun _ _ => rfl) (by omega) (by rw [hsum, hnw]; omega) hd (fun H1 locs1 hP hD hS => ?_)
  have hset : (wd cy ρ M).set b (ρ b, .inl (cy 1, N', .inr (.inl (va_cpy (fun j : Nat => Int64.ofInt (gL M a j)) (fun j : Nat => Int64.ofInt (gL M b j)) (Int32.ofInt sp).toNatClampNeg (Int32.ofInt dp).toNatClampNeg (Int32.ofInt n).toNatClampNeg)))) = wd cy ρ (cL M a sp b dp n) := wd_set rfl (by rw [en_l hb, cpyL_eq rsp rdp rn h1 h2 h3]) (fun b' hb' => en_eq (fun _ => rfl) (fun j => by simp [gL, cL, hb']) (fun _ => rfl))
  replace hP : va_P D vwCl (wd cy ρ (cL M a sp b dp n)) H1 := by rw [← hset]; exact hP
  replace hD : va_D A (wd cy ρ (cL M a sp b dp n)) := by rw [← hset]; exact hD
  exact h l p e R s m args below meth c A D cy X QQ ρ0 n0 mc ms G H1 locs1 cells slots ρ ls (Y.wrt rfl (okM_cL hM qb) (fun _ _ _ => rfl) hP hD hS) hc hs ⟨L.1, L.2.1, ok_t (ok_t (ok_t (ok_t (ok_t L.2.2))))⟩
end MK
