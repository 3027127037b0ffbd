/-! ===== rows of the walk: arrays, making, statics ===== -/
section ARR
variable {d cb sb : Nat} {k : Md} {pc : Nat} {lo : List Lv} {st : List Mv} {M : Mm} {Q : Mm → Option Mv → Prop}
theorem arr_own {n a N : Nat} (ha : sh a = (20, N)) (h : okv n (vR a)) : a < n ∨ (a = 1000 ∧ N = 0) ∨ (a = 1001 ∧ N = 6) ∨ (a = 1002 ∧ N = 24) := by
  rcases h with h | ⟨h1, h2⟩
  · exact Or.inl h
  · have : a = 1000 ∨ a = 1001 ∨ a = 1002 := by omega
    rcases this with rfl | rfl | rfl
    · have e2 : (20, 0) = (20, N) := ha
      cases e2
      exact Or.inr (Or.inl ⟨rfl, rfl⟩)
    · have e2 : (20, 6) = (20, N) := ha
      cases e2
      exact Or.inr (Or.inr (Or.inl ⟨rfl, rfl⟩))
    · have e2 : (20, 24) = (20, N) := ha
      cases e2
      exact Or.inr (Or.inr (Or.inr ⟨rfl, rfl⟩))
theorem tT {t N : Nat} {f : Nat → Value} {A : Nat → Prop} {p : Program} {l : Launch} {e : Env} {R : Room} {s : State} {m : MethodId} {args : Array Value} {below : List Frame} {meth : Method} {c : Code} {H : Heap} {locs : List Loc} {cells slots : Nat} {QQ : State → Prop} {cc : ByteArray} {pc : Nat} {ls : Array Slot} {rest : List Value}
    (hexec : p.tables.exec = Jvm.exec) (hb : c.code = cc) (hT : va_T .int t N f A s s.heap) (hS : va_S A s.heap H locs) {i : Int32} {v : Value} (hin : vp_in i N) (hv : f i.toNatClampNeg = v) (hdg : decode cc pc = .ok (.iaload, 1))
    (kk : W p l e R s m args below meth c H locs cells slots QQ (F0 m (pc + 1) ls (v :: rest))) : W p l e R s m args below meth c H locs cells slots QQ (F0 m pc ls (.int i :: .ref t :: rest)) := by
  obtain ⟨cell, h1, h2, h3, h4, h5, h6, h7⟩ := hT
  have hlt : i.toNatClampNeg < N := Nat.not_le.mp fun q => hin (Or.inr q)
  refine W.iald (v := v) hexec hb (by rw [hS.2.1 t (Array.getElem?_eq_some_iff.mp h1).1 h7]; exact h1) h2 h3 (fun q => ?_) (by rw [h6 _ hlt, hv]) rfl rfl hdg kk
  rcases q with q | q
  · exact hin (Or.inl q)
  · omega
theorem rd_eq {M : Mm} {a : Nat} {x : Int} (hx : inR x) (h0 : 0 ≤ x) : Int32.ofInt (gI M a ((Int32.ofInt x).toNatClampNeg : Int)) = Int32.ofInt (gI M a x) := by rw [of_clamp hx h0]
theorem wq_iald {a N : Nat} {x : Int} (hd : decode k.2.1 pc = .ok (.iaload, 1)) (ha : sh a = (20, N)) (h0 : 0 ≤ x) (h1 : x < N) (h : Wq d cb sb k (pc + 1) lo (vI (gI M a x) :: st) M Q) : Wq d cb sb k pc lo (vI x :: vR a :: st) M Q := by
  intro l p e R s m args below meth c A D cy X QQ ρ0 n0 mc ms G H locs cells slots ρ ls Y hc hs L
  have hx : inR x := ok_h L.2.2
  have K := h l p e R s m args below meth c A D cy X QQ ρ0 n0 mc ms G H locs cells slots ρ ls Y hc hs (L.to (ok_c (v := vI (gI M a x)) (Y.2.2.2.1.2.1 a x) (ok_t (ok_t L.2.2))))
  rcases arr_own ha (ok_h (ok_t L.2.2)) with q | ⟨rfl, rfl⟩ | ⟨rfl, rfl⟩ | ⟨rfl, rfl⟩
  · have he := wd_at (cy := cy) (ρ := ρ) q
    rw [en_i ha] at he
    refine va_iald G.1.1 G.1.2.1 G.2.1 Y.1 a 0 he rfl (of_in hx h0 h1) hd ?_
    rw [rd_eq hx h0]
    exact K
  · omega
  · refine tT G.1.1 G.1.2.1 (by rw [Y.2.2.2.2.2.1 1001 (Or.inr (by decide))]; exact G.2.2.2.1.2.1.2) Y.2.2.1 (of_in hx h0 h1) ?_ hd K
    show Value.int (Int32.ofInt (X 1001 ((Int32.ofInt x).toNatClampNeg : Int))) = .int (Int32.ofInt (gI M 1001 x))
    rw [of_clamp hx h0, Y.2.2.2.2.1 1001 x (by decide)]
  · refine tT G.1.1 G.1.2.1 (by rw [Y.2.2.2.2.2.1 1002 (Or.inr (by decide))]; exact G.2.2.2.1.2.2.1.2) Y.2.2.1 (of_in hx h0 h1) ?_ hd K
    show Value.int (Int32.ofInt (X 1002 ((Int32.ofInt x).toNatClampNeg : Int))) = .int (Int32.ofInt (gI M 1002 x))
    rw [of_clamp hx h0, Y.2.2.2.2.1 1002 x (by decide)]
/-- the script's cells -/
theorem wq_sld {x : Int} (hd : decode k.2.1 pc = .ok (.iaload, 1)) (h0 : 0 ≤ x) (h1 : x < gI M 1000 (-1)) (h : Wq d cb sb k (pc + 1) lo (vI (gI M 1000 x) :: st) M Q) : Wq d cb sb k pc lo (vI x :: vR 1000 :: st) M Q := by
  intro l p e R s m args below meth c A D cy X QQ ρ0 n0 mc ms G H locs cells slots ρ ls Y hc hs L
  have hx : inR x := ok_h L.2.2
  have K := h l p e R s m args below meth c A D cy X QQ ρ0 n0 mc ms G H locs cells slots ρ ls Y hc hs (L.to (ok_c (v := vI (gI M 1000 x)) (Y.2.2.2.1.2.1 1000 x) (ok_t (ok_t L.2.2))))
  obtain ⟨N, hN, hN2, hX, hl, hA⟩ := G.2.2.2.1.1
  rw [Y.2.2.2.2.1 1000 (-1) (by decide), hN] at h1
  have hr : ρ 1000 = ρ0 1000 := Y.2.2.2.2.2.1 1000 (Or.inr (by decide))
  show W p l e R s m args below meth c H locs cells slots QQ (F0 m pc ls (.int (Int32.ofInt x) :: .ref (ρ 1000) :: st.map (tv ρ)))
  rw [hr]
  refine va_sld G.1.1 G.1.2.1 hX hl hA Y.2.2.1 (of_in hx h0 h1) hd ?_
  rw [of_clamp hx h0, ← Y.2.2.2.2.1 1000 x (by decide)]
  exact K
theorem wq_slen (hd : decode k.2.1 pc = .ok (.arraylength, 1)) (h : Wq d cb sb k (pc + 1) lo (vI (gI M 1000 (-1)) :: st) M Q) : Wq d cb sb k pc lo (vR 1000 :: st) M Q := by
  intro l p e R s m args below meth c A D cy X QQ ρ0 n0 mc ms G H locs cells slots ρ ls Y hc hs L
  have K := h l p e R s m args below meth c A D cy X QQ ρ0 n0 mc ms G H locs cells slots ρ ls Y hc hs (L.to (ok_c (v := vI (gI M 1000 (-1))) (Y.2.2.2.1.2.1 1000 (-1)) (ok_t L.2.2)))
  obtain ⟨N, hN, hN2, hX, hl, hA⟩ := G.2.2.2.1.1
  have hr : ρ 1000 = ρ0 1000 := Y.2.2.2.2.2.1 1000 (Or.inr (by decide))
  show W p l e R s m args below meth c H locs cells slots QQ (F0 m pc ls (.ref (ρ 1000) :: st.map (tv ρ)))
  rw [hr]
  refine va_slen G.1.1 G.1.2.1 hX hl hA Y.2.2.1 hd ?_
  have e2 : Int32.ofNat N = Int32.ofInt (gI M 1000 (-1)) := by rw [Y.2.2.2.2.1 1000 (-1) (by decide), hN]; rfl
  rw [e2]
  exact K
theorem upd_eq {M : Mm} {a : Nat} {x v : Int} (hx : inR x) (h0 : 0 ≤ x) : upd (fun j : Nat => Int32.ofInt (gI M a j)) (Int32.ofInt x).toNatClampNeg (Int32.ofInt v) = fun j : Nat => Int32.ofInt (gI (sI M a x v) a j) := by
  funext j
  have hcl := of_clamp hx h0
  unfold upd gI sI
  by_cases hj : j = (Int32.ofInt x).toNatClampNeg
  · have : (j : Int) = x := by rw [hj]; exact hcl
    simp [hj, hcl]
  · have : ¬ ((j : Int) = x) := fun q => hj (by omega)
    simp [hj, this]
theorem wq_iast {a N : Nat} {x v : Int} (hd : decode k.2.1 pc = .ok (.iastore, 1)) (ha : sh a = (20, N)) (hb : a < 1000) (h0 : 0 ≤ x) (h1 : x < N) (h : Wq d cb sb k (pc + 1) lo st (sI M a x v) Q) : Wq d cb sb k pc lo (vI v :: vI x :: vR a :: st) M Q := by
  intro l p e R s m args below meth c A D cy X QQ ρ0 n0 mc ms G H locs cells slots ρ ls Y hc hs L
  have hx : inR x := ok_h (ok_t L.2.2)
  have hM := Y.2.2.2.1
  have q : a < nx M := by
    rcases arr_own ha (ok_h (ok_t (ok_t L.2.2))) with q | ⟨rfl, -⟩ | ⟨rfl, -⟩ | ⟨rfl, -⟩
    · exact q
    · omega
    · omega
    · omega
  have he := wd_at (cy := cy) (ρ := ρ) q
  rw [en_i ha] at he
  refine va_iast G.1.1 G.1.2.1 G.2.1 Y.1 Y.2.1 Y.2.2.1 a 0 he rfl (of_in hx h0 h1) hd (fun H1 locs1 hP hD hS => ?_)
  have hset : (wd cy ρ M).set a (ρ a, .inl (cy 0, N, .inl (upd (fun j : Nat => Int32.ofInt (gI M a j)) (Int32.ofInt x).toNatClampNeg (Int32.ofInt v)))) = wd cy ρ (sI M a x v) := wd_set rfl (by rw [en_i ha, upd_eq hx h0]) (fun b hb => en_sI hb)
  replace hP : va_P D vwCl (wd cy ρ (sI M a x v)) H1 := by rw [← hset]; exact hP
  replace hD : va_D A (wd cy ρ (sI M a x v)) := by rw [← hset]; exact hD
  exact h l p e R s m args below meth c A D cy X QQ ρ0 n0 mc ms G H1 locs1 cells slots ρ ls (Y.wrt rfl (okM_sI hM q (ok_h L.2.2) (fun z => by rw [ha] at z; exact absurd z (show ¬ (20 : Nat) = 22 by decide))) (gI_sI_x hb) hP hD hS) hc hs ⟨L.1, L.2.1, ok_t (ok_t (ok_t L.2.2))⟩
theorem wq_bald {a N : Nat} {x : Int} (hd : decode k.2.1 pc = .ok (.baload, 1)) (ha : sh a = (22, N)) (h0 : 0 ≤ x) (h1 : x < N) (h : Wq d cb sb k (pc + 1) lo (vI (gI M a x) :: st) M Q) : Wq d cb sb k pc lo (vI x :: vR a :: st) M Q := by
  intro l p e R s m args below meth c A D cy X QQ ρ0 n0 mc ms G H locs cells slots ρ ls Y hc hs L
  have hx : inR x := ok_h L.2.2
  have K := h l p e R s m args below meth c A D cy X QQ ρ0 n0 mc ms G H locs cells slots ρ ls Y hc hs (L.to (ok_c (v := vI (gI M a x)) (Y.2.2.2.1.2.1 a x) (ok_t (ok_t L.2.2))))
  have q := own_lt2 ha (by decide) (ok_h (ok_t L.2.2))
  have he := wd_at (cy := cy) (ρ := ρ) q
  rw [en_b ha] at he
  refine va_bald G.1.1 G.1.2.1 G.2.1 Y.1 a 2 he rfl (of_in hx h0 h1) hd ?_
  rw [rd_eq hx h0]
  exact K
theorem bB_in (x : Int) : -128 ≤ bB x ∧ bB x < 128 := by
  unfold bB
  rw [Int8.toInt_toInt32]
  exact ⟨Int8.le_toInt _, Int8.toInt_lt _⟩
theorem wq_bast {a N : Nat} {x v : Int} (hd : decode k.2.1 pc = .ok (.bastore, 1)) (ha : sh a = (22, N)) (h0 : 0 ≤ x) (h1 : x < N) (h : Wq d cb sb k (pc + 1) lo st (sI M a x (bB v)) Q) : Wq d cb sb k pc lo (vI v :: vI x :: vR a :: st) M Q := by
  intro l p e R s m args below meth c A D cy X QQ ρ0 n0 mc ms G H locs cells slots ρ ls Y hc hs L
  have hx : inR x := ok_h (ok_t L.2.2)
  have hM := Y.2.2.2.1
  have q := own_lt2 ha (by decide) (ok_h (ok_t (ok_t L.2.2)))
  have he := wd_at (cy := cy) (ρ := ρ) q
  rw [en_b ha] at he
  refine va_bast G.1.1 G.1.2.1 G.2.1 Y.1 Y.2.1 Y.2.2.1 a 2 he rfl (of_in hx h0 h1) hd (fun H1 locs1 hP hD hS => ?_)
  have hset : (wd cy ρ M).set a (ρ a, .inl (cy 2, N, .inl (upd (fun j : Nat => Int32.ofInt (gI M a j)) (Int32.ofInt x).toNatClampNeg (vp_nar .byte (Int32.ofInt v))))) = wd cy ρ (sI M a x (bB v)) := wd_set rfl (by rw [en_b ha, ← upd_eq hx h0, vp_nar_byte]; unfold bB; rw [of_t]) (fun b hb => en_sI hb)
  replace hP : va_P D vwCl (wd cy ρ (sI M a x (bB v))) H1 := by rw [← hset]; exact hP
  replace hD : va_D A (wd cy ρ (sI M a x (bB v))) := by rw [← hset]; exact hD
  exact h l p e R s m args below meth c A D cy X QQ ρ0 n0 mc ms G H1 locs1 cells slots ρ ls (Y.wrt rfl (okM_sI hM q (inR_t _) (fun _ => bB_in v)) (gI_sI_x (by have := hM.1; omega)) hP hD hS) hc hs ⟨L.1, L.2.1, ok_t (ok_t (ok_t L.2.2))⟩
theorem wq_lald {a N : Nat} {x : Int} (hd : decode k.2.1 pc = .ok (.laload, 1)) (ha : sh a = (21, N)) (h0 : 0 ≤ x) (h1 : x < N) (h : Wq d cb sb k (pc + 1) lo (vL (gL M a x) :: st) M Q) : Wq d cb sb k pc lo (vI x :: vR a :: st) M Q := by
  intro l p e R s m args below meth c A D cy X QQ ρ0 n0 mc ms G H locs cells slots ρ ls Y hc hs L
  have hx : inR x := ok_h L.2.2
  have K := h l p e R s m args below meth c A D cy X QQ ρ0 n0 mc ms G H locs cells slots ρ ls Y hc hs (L.to (ok_c (v := vL (gL M a x)) (Y.2.2.2.1.2.2.1 a x) (ok_t (ok_t L.2.2))))
  have q := own_lt2 ha (by decide) (ok_h (ok_t L.2.2))
  have he := wd_at (cy := cy) (ρ := ρ) q
  rw [en_l ha] at he
  refine va_lald G.1.1 G.1.2.1 G.2.1 Y.1 a 1 he rfl (of_in hx h0 h1) hd ?_
  rw [of_clamp hx h0]
  exact K
theorem updL_eq {M : Mm} {a : Nat} {x v : Int} (hx : inR x) (h0 : 0 ≤ x) : vp_updL (fun j : Nat => Int64.ofInt (gL M a j)) (Int32.ofInt x).toNatClampNeg (Int64.ofInt v) = fun j : Nat => Int64.ofInt (gL (sL M a x v) a j) := by
  funext j
  have hcl := of_clamp hx h0
  unfold vp_updL gL sL
  by_cases hj : j = (Int32.ofInt x).toNatClampNeg
  · have : (j : Int) = x := by rw [hj]; exact hcl
    simp [hj, hcl]
  · have : ¬ ((j : Int) = x) := fun q => hj (by omega)
    simp [hj, this]
theorem wq_last {a N : Nat} {x v : Int} (hd : decode k.2.1 pc = .ok (.lastore, 1)) (ha : sh a = (21, N)) (h0 : 0 ≤ x) (h1 : x < N) (h : Wq d cb sb k (pc + 1) lo st (sL M a x v) Q) : Wq d cb sb k pc lo (vL v :: vI x :: vR a :: st) M Q := by
  intro l p e R s m args below meth c A D cy X QQ ρ0 n0 mc ms G H locs cells slots ρ ls Y hc hs L
  have hx : inR x := ok_h (ok_t L.2.2)
  have hM := Y.2.2.2.1
  have q := own_lt2 ha (by decide) (ok_h (ok_t (ok_t L.2.2)))
  have he := wd_at (cy := cy) (ρ := ρ) q
  rw [en_l ha] at he
  refine va_last G.1.1 G.1.2.1 G.2.1 Y.1 Y.2.1 Y.2.2.1 a 1 he rfl (of_in hx h0 h1) hd (fun H1 locs1 hP hD hS => ?_)
  have hset : (wd cy ρ M).set a (ρ a, .inl (cy 1, N, .inr (.inl (vp_updL (fun j : Nat => Int64.ofInt (gL M a j)) (Int32.ofInt x).toNatClampNeg (Int64.ofInt v))))) = wd cy ρ (sL M a x v) := wd_set rfl (by rw [en_l ha, updL_eq hx h0]) (fun b hb => en_sL hb)
  replace hP : va_P D vwCl (wd cy ρ (sL M a x v)) H1 := by rw [← hset]; exact hP
  replace hD : va_D A (wd cy ρ (sL M a x v)) := by rw [← hset]; exact hD
  exact h l p e R s m args below meth c A D cy X QQ ρ0 n0 mc ms G H1 locs1 cells slots ρ ls (Y.wrt rfl (okM_sL hM q (ok_h L.2.2)) (fun _ _ _ => rfl) hP hD hS) hc hs ⟨L.1, L.2.1, ok_t (ok_t (ok_t L.2.2))⟩
theorem wq_aald {a N b : Nat} {x : Int} (hd : decode k.2.1 pc = .ok (.aaload, 1)) (ha : sh a = (23, N)) (h0 : 0 ≤ x) (h1 : x < N) (hb : gR M a x = some b) (h : Wq d cb sb k (pc + 1) lo (vR b :: st) M Q) : Wq d cb sb k pc lo (vI x :: vR a :: st) M Q := by
  intro l p e R s m args below meth c A D cy X QQ ρ0 n0 mc ms G H locs cells slots ρ ls Y hc hs L
  have hx : inR x := ok_h L.2.2
  have K := h l p e R s m args below meth c A D cy X QQ ρ0 n0 mc ms G H locs cells slots ρ ls Y hc hs (L.to (ok_c (v := vR b) (Or.inl (Y.2.2.2.1.2.2.2.1 a x b hb)) (ok_t (ok_t L.2.2))))
  have q := own_lt2 ha (by decide) (ok_h (ok_t L.2.2))
  have he := wd_at (cy := cy) (ρ := ρ) q
  rw [en_q ha] at he
  refine va_aldq G.1.1 G.1.2.1 G.2.1 Y.1 a 3 he rfl (of_in hx h0 h1) hd ?_
  rw [of_clamp hx h0, hb]
  exact K
theorem wq_aast {a N b : Nat} {x : Int} (hd : decode k.2.1 pc = .ok (.aastore, 1)) (ha : sh a = (23, N)) (hbs : sh b = (6, 3)) (h0 : 0 ≤ x) (h1 : x < N) (h : Wq d cb sb k (pc + 1) lo st (sR M a x (some b)) Q) : Wq d cb sb k pc lo (vR b :: vI x :: vR a :: st) M Q := by
  intro l p e R s m args below meth c A D cy X QQ ρ0 n0 mc ms G H locs cells slots ρ ls Y hc hs L
  have hx : inR x := ok_h (ok_t L.2.2)
  have hM := Y.2.2.2.1
  have q := own_lt2 ha (by decide) (ok_h (ok_t (ok_t L.2.2)))
  have qb := own_lt hbs (by decide) (ok_h L.2.2)
  have he := wd_at (cy := cy) (ρ := ρ) q
  rw [en_q ha] at he
  have hv := wd_at (cy := cy) (ρ := ρ) qb
  rw [en_o hbs (by decide)] at hv
  refine va_astq G.1.1 G.1.2.1 G.2.1 Y.1 Y.2.1 Y.2.2.1 a 3 b 6 (r := (RX6, TX6, 3)) he rfl hv rfl (of_in hx h0 h1) hd (fun H1 locs1 hP hD hS => ?_)
  have hup : va_up (fun j : Nat => (gR M a j).map ρ) (Int32.ofInt x).toNatClampNeg (some (ρ b)) = fun j : Nat => (gR (sR M a x (some b)) a j).map ρ := by
    funext j
    have hcl := of_clamp hx h0
    unfold va_up gR sR
    by_cases hj : j = (Int32.ofInt x).toNatClampNeg
    · have : (j : Int) = x := by rw [hj]; exact hcl
      simp [hj, hcl]
    · have : ¬ ((j : Int) = x) := fun q => hj (by omega)
      simp [hj, this]
  have hset : (wd cy ρ M).set a (ρ a, .inl (cy 3, N, .inr (.inr (.inr (.inr (va_up (fun j : Nat => (gR M a j).map ρ) (Int32.ofInt x).toNatClampNeg (some (ρ b)))))))) = wd cy ρ (sR M a x (some b)) := wd_set rfl (by rw [en_q ha, hup]) (fun b hb => en_sR hb)
  replace hP : va_P D vwCl (wd cy ρ (sR M a x (some b))) H1 := by rw [← hset]; exact hP
  replace hD : va_D A (wd cy ρ (sR M a x (some b))) := by rw [← hset]; exact hD
  exact h l p e R s m args below meth c A D cy X QQ ρ0 n0 mc ms G H1 locs1 cells slots ρ ls (Y.wrt rfl (okM_sR hM q qb) (fun _ _ _ => rfl) hP hD hS) hc hs ⟨L.1, L.2.1, ok_t (ok_t (ok_t L.2.2))⟩
theorem wq_balen {a N : Nat} {z : Int} (hd : decode k.2.1 pc = .ok (.arraylength, 1)) (ha : sh a = (22, N)) (hz : (N : Int) = z) (hN : N < 2147483648) (h : Wq d cb sb k (pc + 1) lo (vI z :: st) M Q) : Wq d cb sb k pc lo (vR a :: st) M Q := by
  intro l p e R s m args below meth c A D cy X QQ ρ0 n0 mc ms G H locs cells slots ρ ls Y hc hs L
  subst hz
  have K := h l p e R s m args below meth c A D cy X QQ ρ0 n0 mc ms G H locs cells slots ρ ls Y hc hs (L.to (ok_c (v := vI N) (show inR N from ⟨by omega, by omega⟩) (ok_t L.2.2)))
  have q := own_lt2 ha (by decide) (ok_h L.2.2)
  have he := wd_at (cy := cy) (ρ := ρ) q
  rw [en_b ha] at he
  exact va_alen G.1.1 G.1.2.1 G.2.1 Y.1 a 2 he rfl (v := Int32.ofInt N) rfl hd K
/-! statics -/
theorem wq_above {i : Nat} (hd : decode k.2.1 pc = .ok (.getstatic i, 3)) (hw : Cond.fieldLink k.1.cls i "WhoseDelay" "ABOVE" "[I" ∈ gw ∨ Cond.fieldLinkNest k.1.cls i "WhoseDelay" "ABOVE" "[I" "WhoseDelay" ∈ nw) (h : Wq d cb sb k (pc + 3) lo (vR 1001 :: st) M Q) : Wq d cb sb k pc lo st M Q := by
  intro l p e R s m args below meth c A D cy X QQ ρ0 n0 mc ms G H locs cells slots ρ ls Y hc hs L
  have K := h l p e R s m args below meth c A D cy X QQ ρ0 n0 mc ms G H locs cells slots ρ ls Y hc hs (L.to (ok_c (v := vR 1001) (Or.inr ⟨by decide, by decide⟩) L.2.2))
  have hr : ρ 1001 = ρ0 1001 := Y.2.2.2.2.2.1 1001 (Or.inr (by decide))
  rcases hw with hw | hw
  · refine va_gets (v := .ref (ρ 1001)) G.1.1 G.1.2.1 (by rw [hr]; exact G.2.2.2.1.2.1.1) Y.2.2.1 G.1.2.2.2.1 (G.1.2.2.2.2.1 _ hw) (fun _ h => h) hd K
  · refine va_getsN (v := .ref (ρ 1001)) G.1.1 G.1.2.1 (by rw [hr]; exact G.2.2.2.1.2.1.1) Y.2.2.1 G.1.2.2.2.1 (va_Nw.use rfl (G.1.2.2.2.2.2.1 _ hw)) (fun _ h => h) hd K
theorem wq_bodies {i : Nat} (hd : decode k.2.1 pc = .ok (.getstatic i, 3)) (hw : Cond.fieldLinkNest k.1.cls i "WhoseDelay" "BODIES" "[I" "WhoseDelay" ∈ nw) (h : Wq d cb sb k (pc + 3) lo (vR 1002 :: st) M Q) : Wq d cb sb k pc lo st M Q := by
  intro l p e R s m args below meth c A D cy X QQ ρ0 n0 mc ms G H locs cells slots ρ ls Y hc hs L
  have K := h l p e R s m args below meth c A D cy X QQ ρ0 n0 mc ms G H locs cells slots ρ ls Y hc hs (L.to (ok_c (v := vR 1002) (Or.inr ⟨by decide, by decide⟩) L.2.2))
  have hr : ρ 1002 = ρ0 1002 := Y.2.2.2.2.2.1 1002 (Or.inr (by decide))
  exact va_getsN (v := .ref (ρ 1002)) G.1.1 G.1.2.1 (by rw [hr]; exact G.2.2.2.1.2.2.1.1) Y.2.2.1 G.1.2.2.2.1 (va_Nw.use rfl (G.1.2.2.2.2.2.1 _ hw)) (fun _ h => h) hd K
/-! making -/
theorem tv_rho {ρ ρ' : Nat → Nat} {n : Nat} {v : Mv} (h : okv n v) (hr : ∀ a, a < n ∨ 1000 ≤ a → ρ' a = ρ a) : tv ρ' v = tv ρ v := by
  rcases v with x | x | x
  · rfl
  · rfl
  · cases x with
    | none => rfl
    | some a =>
      have : a < n ∨ 1000 ≤ a := h.elim Or.inl (fun q => Or.inr q.1)
      show Value.ref _ = Value.ref _
      rw [hr a this]
theorem st_rho {ρ ρ' : Nat → Nat} {n : Nat} {st : List Mv} (h : ∀ v ∈ st, okv n v) (hr : ∀ a, a < n ∨ 1000 ≤ a → ρ' a = ρ a) : st.map (tv ρ') = st.map (tv ρ) := List.map_congr_left (fun v hv => tv_rho (h v hv) hr)
theorem okv_mono {n n' : Nat} (hn : n ≤ n') {v : Mv} (h : okv n v) : okv n' v := by
  rcases v with x | x | x
  · exact h
  · exact h
  · cases x with
    | none => trivial
    | some a => exact h.elim (fun q => Or.inl (by omega)) Or.inr
theorem Dl.rho {k : Md} {ρ ρ' : Nat → Nat} {n n' : Nat} {ls : Array Slot} {lo : List Lv} {st : List Mv} (L : Dl k ρ n ls lo st) (hn : n ≤ n') (hr : ∀ a, a < n ∨ 1000 ≤ a → ρ' a = ρ a) : Dl k ρ' n' ls lo st :=
  ⟨⟨L.1.1, L.1.2.1, L.1.2.2.1, fun i v h => by rw [tv_rho (L.2.1 i v h) hr]; exact L.1.2.2.2 i v h⟩, fun i v h => okv_mono hn (L.2.1 i v h), fun v h => okv_mono hn (L.2.2 v h)⟩
theorem okM_aN {M : Mm} (h : okM M) (hn : nx M < 99) : okM (aN M) :=
  ⟨by show nx M + 1 ≤ 99; omega, h.2.1, h.2.2.1, fun a i b q => by have := h.2.2.2.1 a i b q; show b < nx M + 1; omega, fun a h1 h2 i => h.2.2.2.2.1 a (by have : nx M + 1 ≤ a := h1; omega) h2 i, h.2.2.2.2.2⟩
theorem nx_lt {M : Mm} {c n : Nat} (h : okM M) (hs : sh (nx M) = (c, n)) (hc : c < 99) : nx M < 99 := by
  have h1 := h.1
  by_cases q : nx M = 99
  · rw [q] at hs
    have e2 : (99, 0) = (c, n) := hs
    cases e2
    omega
  · omega
def rN (ρ : Nat → Nat) (n q : Nat) : Nat → Nat := fun a => if a = n then q else ρ a
theorem rN_old {ρ : Nat → Nat} {n q : Nat} (hn : n < 1000) : ∀ a, a < n ∨ 1000 ≤ a → rN ρ n q a = ρ a := fun a h => if_neg (by omega)
theorem Dh.new {s : State} {A : Nat → Prop} {D : va_G} {cy : Nat → ClassId} {X : Nat → Int → Int} {ρ0 : Nat → Nat} {n0 : Nat} {H H1 : Heap} {locs locs1 : List Loc} {ρ : Nat → Nat} {M : Mm} {q : Nat} {x : va_E} (Y : Dh s A D cy X ρ0 n0 H locs ρ M) (hn : nx M < 99) (hx : en cy (rN ρ (nx M) q) (aN M) (nx M) = x)
    (hP : va_P D vwCl (wd cy ρ M ++ [(q, x)]) H1) (hD : va_D A (wd cy ρ M ++ [(q, x)])) (hS : va_S A s.heap H1 locs1) : Dh s A D cy X ρ0 n0 H1 locs1 (rN ρ (nx M) q) (aN M) := by
  have hpush : wd cy ρ M ++ [(q, x)] = wd cy (rN ρ (nx M) q) (aN M) := wd_push rfl (if_pos rfl) hx (fun b hb => ⟨if_neg (by omega), en_rho (M := M) (fun i c hc => if_neg (by have := Y.2.2.2.1.2.2.2.1 b i c hc; omega))⟩)
  rw [hpush] at hP hD
  exact ⟨hP, hD, hS, okM_aN Y.2.2.2.1 hn, Y.2.2.2.2.1, fun a h => by rw [rN, if_neg (by have := Y.2.2.2.2.2.2; omega)]; exact Y.2.2.2.2.2.1 a h, by show n0 ≤ nx M + 1; have := Y.2.2.2.2.2.2; omega⟩
def cOK (own : String) (idx ci N : Nat) : Prop := ∃ (C : String) (T : u_T), vwCl[ci]? = some (C, T, N) ∧ ci < 20 ∧ (∀ w ∈ u_ws C T N, w ∈ gw) ∧ (∀ q, q < N → parseFieldDescriptor (T q).2.2.1 = some (tyC ci q)) ∧ Cond.classLink own idx C ∈ gw ∧ Cond.instantiable C N ∈ gw ∧ Cond.initialized C ∈ gw ∧ (∀ j, j < N → defaultValue (tyC ci j) = if fkT (tyC ci j) = 1 then .null else .int 0)
theorem wq_new {idx ci N a : Nat} (hd : decode k.2.1 pc = .ok (.new idx, 3)) (hk : cOK k.1.cls idx ci N) (hn : nx M = a) (ha : sh a = (ci, N)) (h : Wq d cb sb k (pc + 3) lo (vR a :: st) (aN M) Q) : Wq d (cb + 1) (sb + N) k pc lo st M Q := by
  intro l p e R s m args below meth c A D cy X QQ ρ0 n0 mc ms G H locs cells slots ρ ls Y hc hs L
  subst hn
  obtain ⟨C, T, hcl, hci, hin, hty, w1, w2, w3, hdf⟩ := hk
  have hM := Y.2.2.2.1
  have hlt := nx_lt hM ha (by omega)
  have hz := hM.2.2.2.2.1 (nx M) (Nat.le_refl _) (by omega)
  have hR := G.2.2.2.2.1
  refine va_new (fs := enO ρ M (nx M) ci N) G.1.1 G.1.2.1 G.1.2.2.2.2.1 hin (tyC ci) hty G.1.2.2.2.1 (G.1.2.2.2.2.1 _ w1) (G.1.2.2.2.2.1 _ w2) (G.1.2.2.2.2.1 _ w3) G.2.1 Y.1 Y.2.1 Y.2.2.1 G.2.2.1 hcl (fun j hj => ?_) (by omega) (by omega) hd (fun q H1 hP hD hS => ?_)
  · rw [hdf j hj, vp_V, List.getD_eq_getElem?_getD, enO_at hj, Option.getD_some, fv, (hz j).1, (hz j).2.2]
    rfl
  · have hen : en cy (rN ρ (nx M) q) (aN M) (nx M) = .inr (ci, enO ρ M (nx M) ci N) := by
      rw [en_o ha hci]
      unfold enO fv
      simp only [show ∀ j : Int, gR (aN M) (nx M) j = none from fun j => (hz j).2.2, show ∀ j : Int, gR M (nx M) j = none from fun j => (hz j).2.2]
      rfl
    have K := h l p e R s m args below meth c A D cy X QQ ρ0 n0 mc ms G H1 locs (cells + 1) (slots + N) (rN ρ (nx M) q) ls (Y.new hlt hen hP hD hS) (by omega) (by omega) ((L.rho (n' := nx M + 1) (by omega) (rN_old (q := q) (by omega))).to (ok_c (v := vR (nx M)) (Or.inl (Nat.lt_succ_self _)) (fun w hw => okv_mono (by omega) (L.2.2 w hw))))
    rw [List.map_cons, st_rho L.2.2 (rN_old (q := q) (by omega)), show tv (rN ρ (nx M) q) (vR (nx M)) = .ref q from congrArg Value.ref (if_pos rfl)] at K
    exact K
end ARR
