/-! ===== rows of the walk: fields, arrays, making ===== -/
section HEAP
variable {d cb sb : Nat} {k : Md} {pc : Nat} {lo : List Lv} {st : List Mv} {M : Mm} {Q : Mm → Option Mv → Prop}
def fOK (own : String) (idx ci j N : Nat) : Prop := ∃ (C : String) (T : u_T), vwCl[ci]? = some (C, T, N) ∧ j < N ∧ ci < 20 ∧ (∀ w ∈ u_ws C T N, w ∈ gw) ∧ (∀ q, q < N → parseFieldDescriptor (T q).2.2.1 = some (tyC ci q)) ∧ (∀ a, a < N → ∀ b, b < N → a ≠ b → (T a).2.1 ≠ (T b).2.1) ∧ Cond.fieldLink own idx (T j).1 (T j).2.1 (T j).2.2.1 ∈ gw
/-- the same, and whether the field is final, in the class that declares it -/
def fOKw (own : String) (idx ci j N : Nat) (fin : Bool) : Prop := ∃ (C : String) (T : u_T), vwCl[ci]? = some (C, T, N) ∧ j < N ∧ ci < 20 ∧ (∀ w ∈ u_ws C T N, w ∈ gw) ∧ (∀ q, q < N → parseFieldDescriptor (T q).2.2.1 = some (tyC ci q)) ∧ (∀ a, a < N → ∀ b, b < N → a ≠ b → (T a).2.1 ≠ (T b).2.1) ∧ Cond.fieldLink own idx (T j).1 (T j).2.1 (T j).2.2.1 ∈ gw ∧ (T j).2.2.2 = fin ∧ (fin = true → (T j).1 = own)
theorem own_lt {n a ci N : Nat} (ha : sh a = (ci, N)) (hc : ci < 20) (h : okv n (vR a)) : a < n := by
  rcases h with h | ⟨h1, h2⟩
  · exact h
  · have : a = 1000 ∨ a = 1001 ∨ a = 1002 := by omega
    rcases this with rfl | rfl | rfl
    · exact absurd ha (fun e => by have e2 : (20, 0) = (ci, N) := e; cases e2; omega)
    · exact absurd ha (fun e => by have e2 : (20, 6) = (ci, N) := e; cases e2; omega)
    · exact absurd ha (fun e => by have e2 : (20, 24) = (ci, N) := e; cases e2; omega)
theorem own_lt2 {n a ci N : Nat} (ha : sh a = (ci, N)) (hc : 20 < ci) (h : okv n (vR a)) : a < n := by
  rcases h with h | ⟨h1, h2⟩
  · exact h
  · have : a = 1000 ∨ a = 1001 ∨ a = 1002 := by omega
    rcases this with rfl | rfl | rfl
    · exact absurd ha (fun e => by have e2 : (20, 0) = (ci, N) := e; cases e2; omega)
    · exact absurd ha (fun e => by have e2 : (20, 6) = (ci, N) := e; cases e2; omega)
    · exact absurd ha (fun e => by have e2 : (20, 24) = (ci, N) := e; cases e2; omega)
theorem enO_at {ρ : Nat → Nat} {M : Mm} {a ci N j : Nat} (h : j < N) : (enO ρ M a ci N)[j]? = some (fv ρ M a (tyC ci j) j) := by simp [enO, h]
theorem wq_getI {idx ci j N a : Nat} {z : Int} (hd : decode k.2.1 pc = .ok (.getfield idx, 3)) (hf : fOK k.1.cls idx ci j N) (ha : sh a = (ci, N)) (ht : (fkT (tyC ci j) == 1) = false) (hz : (j : Int) = z) (h : Wq d cb sb k (pc + 3) lo (vI (gI M a z) :: st) M Q) : Wq d cb sb k pc lo (vR a :: st) M Q := by
  intro l p e R s m args below meth c A D cy X QQ ρ0 n0 mc ms G H locs cells slots ρ ls Y hc hs L
  subst hz
  obtain ⟨C, T, hcl, hj, hci, hin, hty, hnm, hlink⟩ := hf
  have ha' : a < nx M := own_lt ha hci (ok_h L.2.2)
  have he := wd_at (cy := cy) (ρ := ρ) ha'
  rw [en_o ha hci] at he
  refine va_get (v := .int (Int32.ofInt (gI M a j))) G.1.1 G.1.2.1 G.1.2.2.2.2.1 hin G.1.2.2.2.1 G.2.1 Y.1 a he hcl j hj (G.1.2.2.2.2.1 _ hlink) (fun _ h => h) ?_ hd ?_
  · rw [enO_at hj, fv, if_neg (by simpa using ht)]
  · exact h l p e R s m args below meth c A D cy X QQ ρ0 n0 mc ms G H locs cells slots ρ ls Y hc hs (L.to (ok_c (v := vI (gI M a j)) (Y.2.2.2.1.2.1 a j) (ok_t L.2.2)))
theorem wq_getR {idx ci j N a b : Nat} {z : Int} (hd : decode k.2.1 pc = .ok (.getfield idx, 3)) (hf : fOK k.1.cls idx ci j N) (ha : sh a = (ci, N)) (ht : (fkT (tyC ci j) == 1) = true) (hz : (j : Int) = z) (hb : gR M a z = some b) (h : Wq d cb sb k (pc + 3) lo (vR b :: st) M Q) : Wq d cb sb k pc lo (vR a :: st) M Q := by
  intro l p e R s m args below meth c A D cy X QQ ρ0 n0 mc ms G H locs cells slots ρ ls Y hc hs L
  subst hz
  obtain ⟨C, T, hcl, hj, hci, hin, hty, hnm, hlink⟩ := hf
  have ha' : a < nx M := own_lt ha hci (ok_h L.2.2)
  have he := wd_at (cy := cy) (ρ := ρ) ha'
  rw [en_o ha hci] at he
  refine va_get (v := .ref (ρ b)) G.1.1 G.1.2.1 G.1.2.2.2.2.1 hin G.1.2.2.2.1 G.2.1 Y.1 a he hcl j hj (G.1.2.2.2.2.1 _ hlink) (fun _ h => h) ?_ hd ?_
  · rw [enO_at hj, fv, if_pos (by simpa using ht), hb]; rfl
  · exact h l p e R s m args below meth c A D cy X QQ ρ0 n0 mc ms G H locs cells slots ρ ls Y hc hs (L.to (ok_c (v := vR b) (Or.inl (Y.2.2.2.1.2.2.2.1 a j b hb)) (ok_t L.2.2)))
/-! writes -/
theorem okM_sI {M : Mm} {a : Nat} {i v : Int} (h : okM M) (ha : a < nx M) (hv : inR v) (hb : (sh a).1 = 22 → -128 ≤ v ∧ v < 128) : okM (sI M a i v) := by
  obtain ⟨h1, h2, h3, h4, h5, h6⟩ := h
  refine ⟨h1, fun b j => ?_, h3, h4, fun b hb2 hb3 j => ⟨?_, (h5 b hb2 hb3 j).2⟩, fun b j hb2 => ?_⟩
  · show inR (if b = a ∧ j = i then v else gI M b j)
    split
    · exact hv
    · exact h2 b j
  · show (if b = a ∧ j = i then v else gI M b j) = 0
    have hb2' : nx M ≤ b := hb2
    rw [if_neg (by omega)]
    exact (h5 b hb2 hb3 j).1
  · show -128 ≤ (if b = a ∧ j = i then v else gI M b j) ∧ (if b = a ∧ j = i then v else gI M b j) < 128
    split
    · rename_i q
      rw [q.1] at hb2
      exact hb hb2
    · exact h6 b j hb2
theorem okM_sL {M : Mm} {a : Nat} {i v : Int} (h : okM M) (ha : a < nx M) (hv : inL v) : okM (sL M a i v) := by
  obtain ⟨h1, h2, h3, h4, h5, h6⟩ := h
  refine ⟨h1, h2, fun b j => ?_, h4, fun b hb2 hb3 j => ⟨(h5 b hb2 hb3 j).1, ?_, (h5 b hb2 hb3 j).2.2⟩, h6⟩
  · show inL (if b = a ∧ j = i then v else gL M b j)
    split
    · exact hv
    · exact h3 b j
  · show (if b = a ∧ j = i then v else gL M b j) = 0
    have hb2' : nx M ≤ b := hb2
    rw [if_neg (by omega)]
    exact (h5 b hb2 hb3 j).2.1
theorem okM_sR {M : Mm} {a b : Nat} {i : Int} (h : okM M) (ha : a < nx M) (hv : b < nx M) : okM (sR M a i (some b)) := by
  obtain ⟨h1, h2, h3, h4, h5, h6⟩ := h
  refine ⟨h1, h2, h3, fun c j b' => ?_, fun c hb2 hb3 j => ⟨(h5 c hb2 hb3 j).1, (h5 c hb2 hb3 j).2.1, ?_⟩, h6⟩
  · show (if c = a ∧ j = i then some b else gR M c j) = some b' → b' < nx M
    split
    · intro e; cases e; exact hv
    · exact h4 c j b'
  · show (if c = a ∧ j = i then some b else gR M c j) = none
    have hb2' : nx M ≤ c := hb2
    rw [if_neg (by omega)]
    exact (h5 c hb2 hb3 j).2.2
theorem enO_setI {ρ : Nat → Nat} {M : Mm} {a ci N j : Nat} {v : Int} (ht : fkT (tyC ci j) ≠ 1) : (enO ρ M a ci N).set j (.int (Int32.ofInt v)) = enO ρ (sI M a j v) a ci N := by
  apply List.ext_getElem?
  intro q
  rw [List.getElem?_set]
  simp only [enO, List.length_map, List.length_range, List.getElem?_map]
  by_cases hq : j = q
  · subst hq
    by_cases h2 : j < N
    · simp [h2, fv, ht, gI, sI]
    · simp [h2]
  · by_cases h2 : q < N
    · have : ¬ ((q : Int) = (j : Int)) := by omega
      simp [hq, h2, fv, gI, sI, this, gR]
    · simp [hq, h2]
theorem enO_setR {ρ : Nat → Nat} {M : Mm} {a ci N j b : Nat} (ht : fkT (tyC ci j) = 1) : (enO ρ M a ci N).set j (.ref (ρ b)) = enO ρ (sR M a j (some b)) a ci N := by
  apply List.ext_getElem?
  intro q
  rw [List.getElem?_set]
  simp only [enO, List.length_map, List.length_range, List.getElem?_map]
  by_cases hq : j = q
  · subst hq
    by_cases h2 : j < N
    · simp [h2, fv, ht, gR, sR, va_rf]
    · simp [h2]
  · by_cases h2 : q < N
    · have : ¬ ((q : Int) = (j : Int)) := by omega
      simp [hq, h2, fv, gI, sR, this, gR]
    · simp [hq, h2]
theorem en_sI {cy : Nat → ClassId} {ρ : Nat → Nat} {M : Mm} {a b : Nat} {i v : Int} (h : b ≠ a) : en cy ρ (sI M a i v) b = en cy ρ M b := en_eq (fun j => by simp [gI, sI, h]) (fun _ => rfl) (fun _ => rfl)
theorem en_sL {cy : Nat → ClassId} {ρ : Nat → Nat} {M : Mm} {a b : Nat} {i v : Int} (h : b ≠ a) : en cy ρ (sL M a i v) b = en cy ρ M b := en_eq (fun _ => rfl) (fun j => by simp [gL, sL, h]) (fun _ => rfl)
theorem en_sR {cy : Nat → ClassId} {ρ : Nat → Nat} {M : Mm} {a b : Nat} {i : Int} {v : Option Nat} (h : b ≠ a) : en cy ρ (sR M a i v) b = en cy ρ M b := en_eq (fun _ => rfl) (fun _ => rfl) (fun j => by simp [gR, sR, h])
/-- the heap's part behind a write of one cell -/
theorem Dh.wrt {s : State} {A : Nat → Prop} {D : va_G} {cy : Nat → ClassId} {X : Nat → Int → Int} {ρ0 : Nat → Nat} {n0 : Nat} {H H1 : Heap} {locs locs1 : List Loc} {ρ : Nat → Nat} {M M' : Mm} (Y : Dh s A D cy X ρ0 n0 H locs ρ M)
    (hn : nx M' = nx M) (hok : okM M') (hx : ∀ a i, 1000 ≤ a → gI M' a i = gI M a i) (hP : va_P D vwCl (wd cy ρ M') H1) (hD : va_D A (wd cy ρ M')) (hS : va_S A s.heap H1 locs1) : Dh s A D cy X ρ0 n0 H1 locs1 ρ M' :=
  ⟨hP, hD, hS, hok, fun a i h => (hx a i h).trans (Y.2.2.2.2.1 a i h), Y.2.2.2.2.2.1, by rw [hn]; exact Y.2.2.2.2.2.2⟩
theorem gI_sI_x {M : Mm} {a : Nat} {i v : Int} (ha : a < 1000) : ∀ b j, 1000 ≤ b → gI (sI M a i v) b j = gI M b j := fun b j hb => if_neg (fun q => by omega)
theorem wq_putI {idx ci j N a : Nat} {z x : Int} (hd : decode k.2.1 pc = .ok (.putfield idx, 3)) (hf : fOKw k.1.cls idx ci j N false) (ha : sh a = (ci, N)) (ht : tyC ci j = .int) (hz : (j : Int) = z) (h : Wq d cb sb k (pc + 3) lo st (sI M a z x) Q) : Wq d cb sb k pc lo (vI x :: vR a :: st) M Q := by
  intro l p e R s m args below meth c A D cy X QQ ρ0 n0 mc ms G H locs cells slots ρ ls Y hc hs L
  subst hz
  obtain ⟨C, T, hcl, hj, hci, hin, hty, hnm, hlink, hfin, -⟩ := hf
  have ha' : a < nx M := own_lt ha hci (ok_h (ok_t L.2.2))
  have hM := Y.2.2.2.1
  have he := wd_at (cy := cy) (ρ := ρ) ha'
  rw [en_o ha hci] at he
  refine va_put (ty := .int) G.1.1 G.1.2.1 G.1.2.2.2.2.1 hin (tyC ci) hty hnm G.1.2.2.2.1 G.2.1 Y.1 Y.2.1 Y.2.2.1 a he hcl j hj (G.1.2.2.2.2.1 _ hlink) (fun _ h => h) hfin (by rw [hty j hj, ht]) rfl rfl (by simpa [enO] using hj) hd (fun H1 locs1 hP hD hS => ?_)
  have hset : (wd cy ρ M).set a (ρ a, .inr (ci, (enO ρ M a ci N).set j (.int (Int32.ofInt x)))) = wd cy ρ (sI M a j x) := wd_set rfl (by rw [en_o ha hci, ← enO_setI (by rw [ht]; decide)]) (fun b hb => en_sI hb)
  replace hP : va_P D vwCl (wd cy ρ (sI M a j x)) H1 := by rw [← hset]; exact hP
  replace hD : va_D A (wd cy ρ (sI M a j x)) := by rw [← hset]; exact hD
  exact h l p e R s m args below meth c A D cy X QQ ρ0 n0 mc ms G H1 locs1 cells slots ρ ls (Y.wrt rfl (okM_sI hM ha' (ok_h L.2.2) (fun q => by rw [ha] at q; exact absurd q (by show ¬ ci = 22; omega))) (gI_sI_x (by have := hM.1; omega)) hP hD hS) hc hs ⟨L.1, L.2.1, ok_t (ok_t L.2.2)⟩
theorem wq_putZ {idx ci j N a : Nat} {z x : Int} (hd : decode k.2.1 pc = .ok (.putfield idx, 3)) (hf : fOKw k.1.cls idx ci j N false) (ha : sh a = (ci, N)) (ht : tyC ci j = .boolean) (hz : (j : Int) = z) (hx : x = 0 ∨ x = 1) (h : Wq d cb sb k (pc + 3) lo st (sI M a z x) Q) : Wq d cb sb k pc lo (vI x :: vR a :: st) M Q := by
  intro l p e R s m args below meth c A D cy X QQ ρ0 n0 mc ms G H locs cells slots ρ ls Y hc hs L
  subst hz
  obtain ⟨C, T, hcl, hj, hci, hin, hty, hnm, hlink, hfin, -⟩ := hf
  have ha' : a < nx M := own_lt ha hci (ok_h (ok_t L.2.2))
  have hM := Y.2.2.2.1
  have he := wd_at (cy := cy) (ρ := ρ) ha'
  rw [en_o ha hci] at he
  refine va_put (ty := .boolean) G.1.1 G.1.2.1 G.1.2.2.2.2.1 hin (tyC ci) hty hnm G.1.2.2.2.1 G.2.1 Y.1 Y.2.1 Y.2.2.1 a he hcl j hj (G.1.2.2.2.2.1 _ hlink) (fun _ h => h) hfin (by rw [hty j hj, ht]) (by rcases hx with rfl | rfl <;> rfl) (by rcases hx with rfl | rfl <;> rfl) (by simpa [enO] using hj) hd (fun H1 locs1 hP hD hS => ?_)
  have hset : (wd cy ρ M).set a (ρ a, .inr (ci, (enO ρ M a ci N).set j (.int (Int32.ofInt x)))) = wd cy ρ (sI M a j x) := wd_set rfl (by rw [en_o ha hci, ← enO_setI (by rw [ht]; decide)]) (fun b hb => en_sI hb)
  replace hP : va_P D vwCl (wd cy ρ (sI M a j x)) H1 := by rw [← hset]; exact hP
  replace hD : va_D A (wd cy ρ (sI M a j x)) := by rw [← hset]; exact hD
  exact h l p e R s m args below meth c A D cy X QQ ρ0 n0 mc ms G H1 locs1 cells slots ρ ls (Y.wrt rfl (okM_sI hM ha' (ok_h L.2.2) (fun q => by rw [ha] at q; exact absurd q (by show ¬ ci = 22; omega))) (gI_sI_x (by have := hM.1; omega)) hP hD hS) hc hs ⟨L.1, L.2.1, ok_t (ok_t L.2.2)⟩
theorem wq_putR {idx ci j N a b : Nat} {z : Int} {fin : Bool} (hd : decode k.2.1 pc = .ok (.putfield idx, 3)) (hf : fOKw k.1.cls idx ci j N fin) (ha : sh a = (ci, N)) (ht : (fkT (tyC ci j) == 1) = true) (hfi : fin = true → k.1.name = "<init>") (hr : ∀ r, narrow (tyC ci j) (.ref r) = .ref r ∧ fits (tyC ci j) (.ref r) = true) (hz : (j : Int) = z) (hb : b < 1000) (h : Wq d cb sb k (pc + 3) lo st (sR M a z (some b)) Q) : Wq d cb sb k pc lo (vR b :: vR a :: st) M Q := by
  intro l p e R s m args below meth c A D cy X QQ ρ0 n0 mc ms G H locs cells slots ρ ls Y hc hs L
  subst hz
  obtain ⟨C, T, hcl, hj, hci, hin, hty, hnm, hlink, hfin, hdecl⟩ := hf
  have ha' : a < nx M := own_lt ha hci (ok_h (ok_t L.2.2))
  have hM := Y.2.2.2.1
  have hb' : b < nx M := by
    rcases (show okv (nx M) (vR b) from ok_h L.2.2) with q | q
    · exact q
    · omega
  have he := wd_at (cy := cy) (ρ := ρ) ha'
  rw [en_o ha hci] at he
  have hset : (wd cy ρ M).set a (ρ a, .inr (ci, (enO ρ M a ci N).set j (.ref (ρ b)))) = wd cy ρ (sR M a j (some b)) := wd_set rfl (by rw [en_o ha hci, ← enO_setR (by simpa using ht)]) (fun b hb => en_sR hb)
  cases fin with
  | false =>
    refine va_put (ty := tyC ci j) G.1.1 G.1.2.1 G.1.2.2.2.2.1 hin (tyC ci) hty hnm G.1.2.2.2.1 G.2.1 Y.1 Y.2.1 Y.2.2.1 a he hcl j hj (G.1.2.2.2.2.1 _ hlink) (fun _ h => h) hfin (hty j hj) (hr _).1 (hr _).2 (by simpa [enO] using hj) hd (fun H1 locs1 hP hD hS => ?_)
    replace hP := hset ▸ hP
    replace hD := hset ▸ hD
    exact h l p e R s m args below meth c A D cy X QQ ρ0 n0 mc ms G H1 locs1 cells slots ρ ls (Y.wrt rfl (okM_sR hM ha' hb') (fun _ _ _ => rfl) hP hD hS) hc hs ⟨L.1, L.2.1, ok_t (ok_t L.2.2)⟩
  | true =>
    refine va_putF (ty := tyC ci j) G.1.1 G.1.2.1 G.1.2.2.2.2.1 hin (tyC ci) hty hnm G.1.2.2.2.1 G.2.1 Y.1 Y.2.1 Y.2.2.1 a he hcl j hj (G.1.2.2.2.2.1 _ hlink) (fun _ h => h) hfin (G.1.2.2.2.2.2.2.trans (hfi rfl)) (hdecl rfl) (hty j hj) (hr _).1 (hr _).2 (by simpa [enO] using hj) hd (fun H1 locs1 hP hD hS => ?_)
    replace hP := hset ▸ hP
    replace hD := hset ▸ hD
    exact h l p e R s m args below meth c A D cy X QQ ρ0 n0 mc ms G H1 locs1 cells slots ρ ls (Y.wrt rfl (okM_sR hM ha' hb') (fun _ _ _ => rfl) hP hD hS) hc hs ⟨L.1, L.2.1, ok_t (ok_t L.2.2)⟩
end HEAP
