section ROWS
variable {d cb sb : Nat} {k : Md} {pc : Nat} {lo : List Lv} {st : List Mv} {M : Mm} {Q : Mm → Option Mv → Prop}
def lg : List Lv → Nat → Lv
  | [], _ => none
  | a :: _, 0 => a
  | _ :: l, n + 1 => lg l n
theorem lg_at : ∀ {lo : List Lv} {i : Nat} {v : Mv}, lg lo i = some v → lo[i]? = some (some v)
  | [], _, _, h => by cases h
  | a :: _, 0, v, h => by simp [lg] at h; simp [h]
  | _ :: l, n + 1, v, h => by simpa using lg_at (lo := l) (i := n) h
theorem lg_of : ∀ {lo : List Lv} {i : Nat} {v : Mv}, lo[i]? = some (some v) → lg lo i = some v
  | [], _, _, h => by simp at h
  | a :: _, 0, v, h => by simpa [lg] using h
  | _ :: l, n + 1, v, h => lg_of (lo := l) (i := n) (by simpa using h)
def lput : List Lv → Nat → Mv → List Lv
  | [], _, _ => []
  | _ :: l, 0, v => some v :: l
  | a :: l, n + 1, v => a :: lput l n v
theorem lput_len : ∀ (lo : List Lv) (i : Nat) (v : Mv), (lput lo i v).length = lo.length
  | [], _, _ => rfl
  | _ :: _, 0, _ => rfl
  | _ :: l, n + 1, v => by simp [lput, lput_len l n v]
theorem lput_at : ∀ (lo : List Lv) (i : Nat) (v : Mv) (j : Nat) (w : Mv), (lput lo i v)[j]? = some (some w) → (j = i ∧ w = v) ∨ (j ≠ i ∧ lo[j]? = some (some w))
  | [], _, _, _, _, h => by simp [lput] at h
  | _ :: l, 0, v, 0, w, h => by simp [lput] at h; exact Or.inl ⟨rfl, h.symm⟩
  | _ :: l, 0, v, j + 1, w, h => Or.inr ⟨by omega, by simpa [lput] using h⟩
  | a :: l, n + 1, v, 0, w, h => Or.inr ⟨by omega, by simpa [lput] using h⟩
  | a :: l, n + 1, v, j + 1, w, h => by
    rcases lput_at l n v j w (by simpa [lput] using h) with ⟨h1, h2⟩ | ⟨h1, h2⟩
    · exact Or.inl ⟨by omega, h2⟩
    · exact Or.inr ⟨by omega, by simpa using h2⟩
/-- a store at i is plain: the place is there, no long stands ahead of it -/
def lokS (lo : List Lv) (i : Nat) : Bool := Nat.blt i lo.length && (match i with
  | 0 => true
  | n + 1 => match lg lo n with
    | some (.inr (.inl _)) => false
    | _ => true)
theorem Dl.to {k : Md} {ρ : Nat → Nat} {n : Nat} {ls : Array Slot} {lo : List Lv} {st st' : List Mv} (L : Dl k ρ n ls lo st) (h : ∀ v ∈ st', okv n v) : Dl k ρ n ls lo st' := ⟨L.1, L.2.1, h⟩
theorem Dl.loc {k : Md} {ρ : Nat → Nat} {n : Nat} {ls : Array Slot} {lo : List Lv} {st : List Mv} (L : Dl k ρ n ls lo st) {i : Nat} {v : Mv} (h : lg lo i = some v) : ls[i]? = some (.val (tv ρ v)) ∧ okv n v := ⟨L.1.2.2.2 i v (lg_at h), L.2.1 i v (lg_at h)⟩
theorem ok_c {n : Nat} {st : List Mv} {v : Mv} (hv : okv n v) (h : ∀ w ∈ st, okv n w) : ∀ w ∈ v :: st, okv n w := fun w hw => (List.mem_cons.mp hw).elim (fun e => e ▸ hv) (h w)
theorem ok_h {n : Nat} {st : List Mv} {v : Mv} (h : ∀ w ∈ v :: st, okv n w) : okv n v := h v List.mem_cons_self
theorem ok_t {n : Nat} {st : List Mv} {v : Mv} (h : ∀ w ∈ v :: st, okv n w) : ∀ w ∈ st, okv n w := fun w hw => h w (List.mem_cons_of_mem _ hw)
def asc (ρ : Nat → Nat) (lo : List Lv) : List (Nat × Value) := (List.range lo.length).filterMap (fun i => (lg lo i).map (fun v => (i, tv ρ v)))
theorem asc_in {ρ : Nat → Nat} {lo : List Lv} {i : Nat} {v : Mv} (h : lg lo i = some v) : (i, tv ρ v) ∈ asc ρ lo := by
  unfold asc
  rw [List.mem_filterMap]
  have hl : i < lo.length := (List.getElem?_eq_some_iff.mp (lg_at h)).1
  exact ⟨i, List.mem_range.mpr hl, by rw [h]; rfl⟩
theorem asc_has {k : Md} {ρ : Nat → Nat} {n : Nat} {ls : Array Slot} {lo : List Lv} {st : List Mv} (L : Dl k ρ n ls lo st) : lv_has ls k.2.2.1 (asc ρ lo) := by
  refine ⟨L.1.2.1, L.1.2.2.1, ?_⟩
  intro q hq
  unfold asc at hq
  obtain ⟨i, -, h2⟩ := List.mem_filterMap.mp hq
  cases h3 : lg lo i with
  | none => rw [h3] at h2; cases h2
  | some v =>
    rw [h3] at h2
    cases h2
    exact (L.loc h3).1
theorem Dl.put {k : Md} {ρ : Nat → Nat} {n : Nat} {ls ls' : Array Slot} {lo : List Lv} {st st' : List Mv} {i : Nat} {v : Mv} (L : Dl k ρ n ls lo st) (hs : lokS lo i = true) (hv : okv n v) (hst : ∀ w ∈ st', okv n w)
    (h : lv_has ls' k.2.2.1 ((i, tv ρ v) :: (asc ρ lo).filter (fun q => !(q.1 == i) && !(q.1 + 1 == i && q.2.category == 2)))) : Dl k ρ n ls' (lput lo i v) st' := by
  refine ⟨⟨(lput_len lo i v).trans L.1.1, h.1, h.2.1, ?_⟩, ?_, hst⟩
  · intro j w hj
    rcases lput_at lo i v j w hj with ⟨rfl, rfl⟩ | ⟨h1, h2⟩
    · exact h.2.2 _ List.mem_cons_self
    · refine h.2.2 (j, tv ρ w) (List.mem_cons_of_mem _ (List.mem_filter.mpr ⟨asc_in (lg_of h2), ?_⟩))
      simp only [Bool.and_eq_true, Bool.not_eq_true', beq_eq_false_iff_ne]
      refine ⟨h1, ?_⟩
      cases i with
      | zero => simp
      | succ i =>
        by_cases hji : j = i
        · subst hji
          have h4 := lg_of h2
          unfold lokS at hs
          simp only [h4, Bool.and_eq_true] at hs
          rw [catM_tv]
          rcases w with x | x | x
          · simp [catM]
          · exact absurd hs.2 (by simp)
          · simp [catM]
        · simp [hji]
  · intro j w hj
    rcases lput_at lo i v j w hj with ⟨rfl, rfl⟩ | ⟨h1, h2⟩
    · exact hv
    · exact L.2.1 j w h2
theorem lokS_lt {lo : List Lv} {i : Nat} (h : lokS lo i = true) : i < lo.length := by
  unfold lokS at h
  rw [Bool.and_eq_true] at h
  exact Nat.blt_eq.mp h.1
/-! constants -/
theorem in_b {n : Int} (h : (decide (-32768 ≤ n) && decide (n < 32768)) = true) : inR n := by
  simp only [Bool.and_eq_true, decide_eq_true_eq] at h
  exact ⟨by omega, by omega⟩
theorem wq_iconst {n : Int} (hd : decode k.2.1 pc = .ok (.iconst n, 1)) (hn : (decide (-32768 ≤ n) && decide (n < 32768)) = true) (h : Wq d cb sb k (pc + 1) lo (vI n :: st) M Q) : Wq d cb sb k pc lo st M Q := by
  intro l p e R s m args below meth c A D cy X QQ ρ0 n0 mc ms G H locs cells slots ρ ls Y hc hs L
  refine lv_iconst (v := Int32.ofInt n) G.1.1 G.1.2.1 hd rfl ?_
  exact h l p e R s m args below meth c A D cy X QQ ρ0 n0 mc ms G H locs cells slots ρ ls Y hc hs (L.to (ok_c (in_b hn) L.2.2))
theorem of_b8 {n : Int} (h : (decide (-128 ≤ n) && decide (n < 128)) = true) : (Int8.ofInt n).toInt32 = Int32.ofInt n := by
  simp only [Bool.and_eq_true, decide_eq_true_eq] at h
  apply Int32.toInt_inj.mp
  rw [Int8.toInt_toInt32, Int8.toInt_ofInt_of_le h.1 h.2, t_of ⟨by omega, by omega⟩]
theorem of_s16 {n : Int} (h : (decide (-32768 ≤ n) && decide (n < 32768)) = true) : (Int16.ofInt n).toInt32 = Int32.ofInt n := by
  simp only [Bool.and_eq_true, decide_eq_true_eq] at h
  apply Int32.toInt_inj.mp
  rw [Int16.toInt_toInt32, Int16.toInt_ofInt_of_le h.1 h.2, t_of ⟨by omega, by omega⟩]
theorem in_b8 {n : Int} (h : (decide (-128 ≤ n) && decide (n < 128)) = true) : inR n := by
  simp only [Bool.and_eq_true, decide_eq_true_eq] at h
  exact ⟨by omega, by omega⟩
theorem wq_bipush {n : Int} (hd : decode k.2.1 pc = .ok (.bipush n, 2)) (hn : (decide (-128 ≤ n) && decide (n < 128)) = true) (h : Wq d cb sb k (pc + 2) lo (vI n :: st) M Q) : Wq d cb sb k pc lo st M Q := by
  intro l p e R s m args below meth c A D cy X QQ ρ0 n0 mc ms G H locs cells slots ρ ls Y hc hs L
  refine lv_bipush (v := Int32.ofInt n) G.1.1 G.1.2.1 hd (of_b8 hn) ?_
  exact h l p e R s m args below meth c A D cy X QQ ρ0 n0 mc ms G H locs cells slots ρ ls Y hc hs (L.to (ok_c (in_b8 hn) L.2.2))
theorem wq_sipush {n : Int} (hd : decode k.2.1 pc = .ok (.sipush n, 3)) (hn : (decide (-32768 ≤ n) && decide (n < 32768)) = true) (h : Wq d cb sb k (pc + 3) lo (vI n :: st) M Q) : Wq d cb sb k pc lo st M Q := by
  intro l p e R s m args below meth c A D cy X QQ ρ0 n0 mc ms G H locs cells slots ρ ls Y hc hs L
  refine lv_sipush (v := Int32.ofInt n) G.1.1 G.1.2.1 hd (of_s16 hn) ?_
  exact h l p e R s m args below meth c A D cy X QQ ρ0 n0 mc ms G H locs cells slots ρ ls Y hc hs (L.to (ok_c (in_b hn) L.2.2))
theorem wq_lconst {n : Fin 2} {x : Int} (hd : decode k.2.1 pc = .ok (.lconst n, 1)) (hn : Int64.ofNat (n : Nat) = Int64.ofInt x) (hx : (decide (-32768 ≤ x) && decide (x < 32768)) = true) (h : Wq d cb sb k (pc + 1) lo (vL x :: st) M Q) : Wq d cb sb k pc lo st M Q := by
  intro l p e R s m args below meth c A D cy X QQ ρ0 n0 mc ms G H locs cells slots ρ ls Y hc hs L
  refine lv_lconst (v := Int64.ofInt x) G.1.1 G.1.2.1 hd hn ?_
  exact h l p e R s m args below meth c A D cy X QQ ρ0 n0 mc ms G H locs cells slots ρ ls Y hc hs (L.to (ok_c (show inL x from ⟨by have := (in_b hx).1; omega, by have := (in_b hx).2; omega⟩) L.2.2))
theorem wq_ldc {i : Nat} {x : Int32} {z : Int} (hd : decode k.2.1 pc = .ok (.ldc i, 2)) (hw : Cond.constant k.1.cls i x ∈ gw) (hz : x.toInt = z) (h : Wq d cb sb k (pc + 2) lo (vI z :: st) M Q) : Wq d cb sb k pc lo st M Q := by
  intro l p e R s m args below meth c A D cy X QQ ρ0 n0 mc ms G H locs cells slots ρ ls Y hc hs L
  refine lv_ldc (v := Int32.ofInt z) G.1.1 G.1.2.1 G.1.2.2.2.1 (by rw [← hz, of_t]; exact G.1.2.2.2.2.1 _ hw) hd ?_
  exact h l p e R s m args below meth c A D cy X QQ ρ0 n0 mc ms G H locs cells slots ρ ls Y hc hs (L.to (ok_c (hz ▸ inR_t x : inR z) L.2.2))
theorem wq_ldcw {i : Nat} {x : Int32} {z : Int} (hd : decode k.2.1 pc = .ok (.ldc_w i, 3)) (hw : Cond.constant k.1.cls i x ∈ gw) (hz : x.toInt = z) (h : Wq d cb sb k (pc + 3) lo (vI z :: st) M Q) : Wq d cb sb k pc lo st M Q := by
  intro l p e R s m args below meth c A D cy X QQ ρ0 n0 mc ms G H locs cells slots ρ ls Y hc hs L
  refine lv_ldcw (v := Int32.ofInt z) G.1.1 G.1.2.1 G.1.2.2.2.1 (by rw [← hz, of_t]; exact G.1.2.2.2.2.1 _ hw) hd ?_
  exact h l p e R s m args below meth c A D cy X QQ ρ0 n0 mc ms G H locs cells slots ρ ls Y hc hs (L.to (ok_c (hz ▸ inR_t x : inR z) L.2.2))
theorem wq_ldc2 {i : Nat} {x : Int64} {z : Int} (hd : decode k.2.1 pc = .ok (.ldc2_w i, 3)) (hw : Cond.constantLong k.1.cls i x ∈ gw) (hz : x.toInt = z) (h : Wq d cb sb k (pc + 3) lo (vL z :: st) M Q) : Wq d cb sb k pc lo st M Q := by
  intro l p e R s m args below meth c A D cy X QQ ρ0 n0 mc ms G H locs cells slots ρ ls Y hc hs L
  refine lv_ldc2 (v := Int64.ofInt z) G.1.1 G.1.2.1 G.1.2.2.2.1 (by rw [← hz, of_tL]; exact G.1.2.2.2.2.1 _ hw) hd ?_
  exact h l p e R s m args below meth c A D cy X QQ ρ0 n0 mc ms G H locs cells slots ρ ls Y hc hs (L.to (ok_c (hz ▸ inL_t x : inL z) L.2.2))
theorem wq_iload_n {f : Fin 4} {i : Nat} {x : Int} (hd : decode k.2.1 pc = .ok (.iload_n f, 1)) (hi : (f : Nat) = i) (hl : lg lo i = some (vI x)) (h : Wq d cb sb k (pc + 1) lo (vI x :: st) M Q) : Wq d cb sb k pc lo st M Q := by
  intro l p e R s m args below meth c A D cy X QQ ρ0 n0 mc ms G H locs cells slots ρ ls Y hc hs L
  refine lv_iload_n G.1.1 G.1.2.1 hd hi (L.loc hl).1 ?_
  exact h l p e R s m args below meth c A D cy X QQ ρ0 n0 mc ms G H locs cells slots ρ ls Y hc hs (L.to (ok_c (L.loc hl).2 L.2.2))
theorem wq_iload {i : Nat} {x : Int} (hd : decode k.2.1 pc = .ok (.iload i, 2)) (hl : lg lo i = some (vI x)) (h : Wq d cb sb k (pc + 2) lo (vI x :: st) M Q) : Wq d cb sb k pc lo st M Q := by
  intro l p e R s m args below meth c A D cy X QQ ρ0 n0 mc ms G H locs cells slots ρ ls Y hc hs L
  refine lv_iload G.1.1 G.1.2.1 hd (L.loc hl).1 ?_
  exact h l p e R s m args below meth c A D cy X QQ ρ0 n0 mc ms G H locs cells slots ρ ls Y hc hs (L.to (ok_c (L.loc hl).2 L.2.2))
theorem wq_lload_n {f : Fin 4} {i : Nat} {x : Int} (hd : decode k.2.1 pc = .ok (.lload_n f, 1)) (hi : (f : Nat) = i) (hl : lg lo i = some (vL x)) (h : Wq d cb sb k (pc + 1) lo (vL x :: st) M Q) : Wq d cb sb k pc lo st M Q := by
  intro l p e R s m args below meth c A D cy X QQ ρ0 n0 mc ms G H locs cells slots ρ ls Y hc hs L
  refine lv_lload_n G.1.1 G.1.2.1 hd hi (L.loc hl).1 ?_
  exact h l p e R s m args below meth c A D cy X QQ ρ0 n0 mc ms G H locs cells slots ρ ls Y hc hs (L.to (ok_c (L.loc hl).2 L.2.2))
theorem wq_lload {i : Nat} {x : Int} (hd : decode k.2.1 pc = .ok (.lload i, 2)) (hl : lg lo i = some (vL x)) (h : Wq d cb sb k (pc + 2) lo (vL x :: st) M Q) : Wq d cb sb k pc lo st M Q := by
  intro l p e R s m args below meth c A D cy X QQ ρ0 n0 mc ms G H locs cells slots ρ ls Y hc hs L
  refine lv_lload G.1.1 G.1.2.1 hd (L.loc hl).1 ?_
  exact h l p e R s m args below meth c A D cy X QQ ρ0 n0 mc ms G H locs cells slots ρ ls Y hc hs (L.to (ok_c (L.loc hl).2 L.2.2))
theorem wq_aload_n {f : Fin 4} {i : Nat} {x : Nat} (hd : decode k.2.1 pc = .ok (.aload_n f, 1)) (hi : (f : Nat) = i) (hl : lg lo i = some (vR x)) (h : Wq d cb sb k (pc + 1) lo (vR x :: st) M Q) : Wq d cb sb k pc lo st M Q := by
  intro l p e R s m args below meth c A D cy X QQ ρ0 n0 mc ms G H locs cells slots ρ ls Y hc hs L
  refine lv_aload_n G.1.1 G.1.2.1 hd hi (L.loc hl).1 ?_
  exact h l p e R s m args below meth c A D cy X QQ ρ0 n0 mc ms G H locs cells slots ρ ls Y hc hs (L.to (ok_c (L.loc hl).2 L.2.2))
theorem wq_aload {i : Nat} {x : Nat} (hd : decode k.2.1 pc = .ok (.aload i, 2)) (hl : lg lo i = some (vR x)) (h : Wq d cb sb k (pc + 2) lo (vR x :: st) M Q) : Wq d cb sb k pc lo st M Q := by
  intro l p e R s m args below meth c A D cy X QQ ρ0 n0 mc ms G H locs cells slots ρ ls Y hc hs L
  refine lv_aload G.1.1 G.1.2.1 hd (L.loc hl).1 ?_
  exact h l p e R s m args below meth c A D cy X QQ ρ0 n0 mc ms G H locs cells slots ρ ls Y hc hs (L.to (ok_c (L.loc hl).2 L.2.2))
theorem wq_istore_n {f : Fin 4} {i : Nat} {x : Int} {lo' : List Lv} (hd : decode k.2.1 pc = .ok (.istore_n f, 1)) (hi : (f : Nat) = i) (hk : lokS lo i = true) (he : lput lo i (vI x) = lo') (h : Wq d cb sb k (pc + 1) lo' st M Q) : Wq d cb sb k pc lo (vI x :: st) M Q := by
  intro l p e R s m args below meth c A D cy X QQ ρ0 n0 mc ms G H locs cells slots ρ ls Y hc hs L
  subst he
  refine lv_istore_n G.1.1 G.1.2.1 hd hi (asc_has L) (by rw [← L.1.1]; exact lokS_lt hk) rfl (fun ls' hl => ?_)
  exact h l p e R s m args below meth c A D cy X QQ ρ0 n0 mc ms G H locs cells slots ρ ls' Y hc hs (L.put hk (ok_h L.2.2) (ok_t L.2.2) hl)
theorem wq_istore {i : Nat} {x : Int} {lo' : List Lv} (hd : decode k.2.1 pc = .ok (.istore i, 2)) (hk : lokS lo i = true) (he : lput lo i (vI x) = lo') (h : Wq d cb sb k (pc + 2) lo' st M Q) : Wq d cb sb k pc lo (vI x :: st) M Q := by
  intro l p e R s m args below meth c A D cy X QQ ρ0 n0 mc ms G H locs cells slots ρ ls Y hc hs L
  subst he
  refine lv_istore G.1.1 G.1.2.1 hd (asc_has L) (by rw [← L.1.1]; exact lokS_lt hk) rfl (fun ls' hl => ?_)
  exact h l p e R s m args below meth c A D cy X QQ ρ0 n0 mc ms G H locs cells slots ρ ls' Y hc hs (L.put hk (ok_h L.2.2) (ok_t L.2.2) hl)
theorem wq_astore_n {f : Fin 4} {i : Nat} {x : Nat} {lo' : List Lv} (hd : decode k.2.1 pc = .ok (.astore_n f, 1)) (hi : (f : Nat) = i) (hk : lokS lo i = true) (he : lput lo i (vR x) = lo') (h : Wq d cb sb k (pc + 1) lo' st M Q) : Wq d cb sb k pc lo (vR x :: st) M Q := by
  intro l p e R s m args below meth c A D cy X QQ ρ0 n0 mc ms G H locs cells slots ρ ls Y hc hs L
  subst he
  refine lv_astore_n G.1.1 G.1.2.1 hd hi (asc_has L) (by rw [← L.1.1]; exact lokS_lt hk) rfl (fun ls' hl => ?_)
  exact h l p e R s m args below meth c A D cy X QQ ρ0 n0 mc ms G H locs cells slots ρ ls' Y hc hs (L.put hk (ok_h L.2.2) (ok_t L.2.2) hl)
theorem wq_astore {i : Nat} {x : Nat} {lo' : List Lv} (hd : decode k.2.1 pc = .ok (.astore i, 2)) (hk : lokS lo i = true) (he : lput lo i (vR x) = lo') (h : Wq d cb sb k (pc + 2) lo' st M Q) : Wq d cb sb k pc lo (vR x :: st) M Q := by
  intro l p e R s m args below meth c A D cy X QQ ρ0 n0 mc ms G H locs cells slots ρ ls Y hc hs L
  subst he
  refine lv_astore G.1.1 G.1.2.1 hd (asc_has L) (by rw [← L.1.1]; exact lokS_lt hk) rfl (fun ls' hl => ?_)
  exact h l p e R s m args below meth c A D cy X QQ ρ0 n0 mc ms G H locs cells slots ρ ls' Y hc hs (L.put hk (ok_h L.2.2) (ok_t L.2.2) hl)
theorem wq_iinc {i : Nat} {n x : Int} {lo' : List Lv} (hd : decode k.2.1 pc = .ok (.iinc i n, 3)) (hl : lg lo i = some (vI x)) (hk : lokS lo i = true) (he : lput lo i (vI (wr (x + n))) = lo') (h : Wq d cb sb k (pc + 3) lo' st M Q) : Wq d cb sb k pc lo st M Q := by
  intro l p e R s m args below meth c A D cy X QQ ρ0 n0 mc ms G H locs cells slots ρ ls Y hc hs L
  subst he
  obtain ⟨j, hj⟩ := List.getElem?_of_mem (asc_in (ρ := ρ) hl)
  refine lv_iinc (v := Int32.ofInt (wr (x + n))) G.1.1 G.1.2.1 hd (asc_has L) hj (by rw [of_wr, Int32.ofInt_add]) (by rw [← L.1.1]; exact lokS_lt hk) rfl (fun ls' hl' => ?_)
  exact h l p e R s m args below meth c A D cy X QQ ρ0 n0 mc ms G H locs cells slots ρ ls' Y hc hs (L.put (v := vI (wr (x + n))) hk (wr_in _) L.2.2 hl')
theorem wq_iadd {x y : Int} (hd : decode k.2.1 pc = .ok (.iadd, 1))  (h : Wq d cb sb k (pc + 1) lo (vI (wr (x + y)) :: st) M Q) : Wq d cb sb k pc lo (vI y :: vI x :: st) M Q := by
  intro l p e R s m args below meth c A D cy X QQ ρ0 n0 mc ms G H locs cells slots ρ ls Y hc hs L
  have K := h l p e R s m args below meth c A D cy X QQ ρ0 n0 mc ms G H locs cells slots ρ ls Y hc hs (L.to (ok_c (v := vI (wr (x + y))) (wr_in _) (ok_t (ok_t L.2.2))))
  refine lv_iadd G.1.1 G.1.2.1 hd  ?_
  rw [← of_add]
  exact K
theorem wq_isub {x y : Int} (hd : decode k.2.1 pc = .ok (.isub, 1))  (h : Wq d cb sb k (pc + 1) lo (vI (wr (x - y)) :: st) M Q) : Wq d cb sb k pc lo (vI y :: vI x :: st) M Q := by
  intro l p e R s m args below meth c A D cy X QQ ρ0 n0 mc ms G H locs cells slots ρ ls Y hc hs L
  have K := h l p e R s m args below meth c A D cy X QQ ρ0 n0 mc ms G H locs cells slots ρ ls Y hc hs (L.to (ok_c (v := vI (wr (x - y))) (wr_in _) (ok_t (ok_t L.2.2))))
  refine lv_isub G.1.1 G.1.2.1 hd  ?_
  rw [← of_sub]
  exact K
theorem wq_imul {x y : Int} (hd : decode k.2.1 pc = .ok (.imul, 1))  (h : Wq d cb sb k (pc + 1) lo (vI (wr (x * y)) :: st) M Q) : Wq d cb sb k pc lo (vI y :: vI x :: st) M Q := by
  intro l p e R s m args below meth c A D cy X QQ ρ0 n0 mc ms G H locs cells slots ρ ls Y hc hs L
  have K := h l p e R s m args below meth c A D cy X QQ ρ0 n0 mc ms G H locs cells slots ρ ls Y hc hs (L.to (ok_c (v := vI (wr (x * y))) (wr_in _) (ok_t (ok_t L.2.2))))
  refine lv_imul G.1.1 G.1.2.1 hd  ?_
  rw [← of_mul]
  exact K
theorem wq_idiv {x y : Int} (hd : decode k.2.1 pc = .ok (.idiv, 1)) (hy : ¬ y = 0) (h : Wq d cb sb k (pc + 1) lo (vI (wr (x.tdiv y)) :: st) M Q) : Wq d cb sb k pc lo (vI y :: vI x :: st) M Q := by
  intro l p e R s m args below meth c A D cy X QQ ρ0 n0 mc ms G H locs cells slots ρ ls Y hc hs L
  have K := h l p e R s m args below meth c A D cy X QQ ρ0 n0 mc ms G H locs cells slots ρ ls Y hc hs (L.to (ok_c (v := vI (wr (x.tdiv y))) (wr_in _) (ok_t (ok_t L.2.2))))
  refine lv_idiv G.1.1 G.1.2.1 hd (fun q => hy ((of_eq (ok_h L.2.2) (y := 0) ⟨by decide, by decide⟩).mp (q.trans of_0.symm))) ?_
  rw [← of_div (ok_h (ok_t L.2.2)) (ok_h L.2.2)]
  exact K
theorem wq_irem {x y : Int} (hd : decode k.2.1 pc = .ok (.irem, 1)) (hy : ¬ y = 0) (h : Wq d cb sb k (pc + 1) lo (vI (wr (x.tmod y)) :: st) M Q) : Wq d cb sb k pc lo (vI y :: vI x :: st) M Q := by
  intro l p e R s m args below meth c A D cy X QQ ρ0 n0 mc ms G H locs cells slots ρ ls Y hc hs L
  have K := h l p e R s m args below meth c A D cy X QQ ρ0 n0 mc ms G H locs cells slots ρ ls Y hc hs (L.to (ok_c (v := vI (wr (x.tmod y))) (wr_in _) (ok_t (ok_t L.2.2))))
  refine lv_irem G.1.1 G.1.2.1 hd (fun q => hy ((of_eq (ok_h L.2.2) (y := 0) ⟨by decide, by decide⟩).mp (q.trans of_0.symm))) ?_
  rw [← of_rem (ok_h (ok_t L.2.2)) (ok_h L.2.2)]
  exact K
theorem wq_iand {x y : Int} (hd : decode k.2.1 pc = .ok (.iand, 1))  (h : Wq d cb sb k (pc + 1) lo (vI (bAnd x y) :: st) M Q) : Wq d cb sb k pc lo (vI y :: vI x :: st) M Q := by
  intro l p e R s m args below meth c A D cy X QQ ρ0 n0 mc ms G H locs cells slots ρ ls Y hc hs L
  have K := h l p e R s m args below meth c A D cy X QQ ρ0 n0 mc ms G H locs cells slots ρ ls Y hc hs (L.to (ok_c (v := vI (bAnd x y)) (inR_t _) (ok_t (ok_t L.2.2))))
  refine lv_iand G.1.1 G.1.2.1 hd  ?_
  unfold bAnd at K; simp only [List.map_cons, tv, of_t] at K
  exact K
theorem wq_ior {x y : Int} (hd : decode k.2.1 pc = .ok (.ior, 1))  (h : Wq d cb sb k (pc + 1) lo (vI (bOr x y) :: st) M Q) : Wq d cb sb k pc lo (vI y :: vI x :: st) M Q := by
  intro l p e R s m args below meth c A D cy X QQ ρ0 n0 mc ms G H locs cells slots ρ ls Y hc hs L
  have K := h l p e R s m args below meth c A D cy X QQ ρ0 n0 mc ms G H locs cells slots ρ ls Y hc hs (L.to (ok_c (v := vI (bOr x y)) (inR_t _) (ok_t (ok_t L.2.2))))
  refine lv_ior G.1.1 G.1.2.1 hd  ?_
  unfold bOr at K; simp only [List.map_cons, tv, of_t] at K
  exact K
theorem wq_ixor {x y : Int} (hd : decode k.2.1 pc = .ok (.ixor, 1))  (h : Wq d cb sb k (pc + 1) lo (vI (bXor x y) :: st) M Q) : Wq d cb sb k pc lo (vI y :: vI x :: st) M Q := by
  intro l p e R s m args below meth c A D cy X QQ ρ0 n0 mc ms G H locs cells slots ρ ls Y hc hs L
  have K := h l p e R s m args below meth c A D cy X QQ ρ0 n0 mc ms G H locs cells slots ρ ls Y hc hs (L.to (ok_c (v := vI (bXor x y)) (inR_t _) (ok_t (ok_t L.2.2))))
  refine lv_ixor G.1.1 G.1.2.1 hd  ?_
  unfold bXor at K; simp only [List.map_cons, tv, of_t] at K
  exact K
theorem wq_ishl {x y : Int} (hd : decode k.2.1 pc = .ok (.ishl, 1))  (h : Wq d cb sb k (pc + 1) lo (vI (bShl x y) :: st) M Q) : Wq d cb sb k pc lo (vI y :: vI x :: st) M Q := by
  intro l p e R s m args below meth c A D cy X QQ ρ0 n0 mc ms G H locs cells slots ρ ls Y hc hs L
  have K := h l p e R s m args below meth c A D cy X QQ ρ0 n0 mc ms G H locs cells slots ρ ls Y hc hs (L.to (ok_c (v := vI (bShl x y)) (inR_t _) (ok_t (ok_t L.2.2))))
  refine lv_ishl G.1.1 G.1.2.1 hd  ?_
  unfold bShl at K; simp only [List.map_cons, tv, of_t] at K
  exact K
theorem wq_ishr {x y : Int} (hd : decode k.2.1 pc = .ok (.ishr, 1))  (h : Wq d cb sb k (pc + 1) lo (vI (bShr x y) :: st) M Q) : Wq d cb sb k pc lo (vI y :: vI x :: st) M Q := by
  intro l p e R s m args below meth c A D cy X QQ ρ0 n0 mc ms G H locs cells slots ρ ls Y hc hs L
  have K := h l p e R s m args below meth c A D cy X QQ ρ0 n0 mc ms G H locs cells slots ρ ls Y hc hs (L.to (ok_c (v := vI (bShr x y)) (inR_t _) (ok_t (ok_t L.2.2))))
  refine lv_ishr G.1.1 G.1.2.1 hd  ?_
  unfold bShr at K; simp only [List.map_cons, tv, of_t] at K
  exact K
theorem wq_iushr {x y : Int} (hd : decode k.2.1 pc = .ok (.iushr, 1))  (h : Wq d cb sb k (pc + 1) lo (vI (bUshr x y) :: st) M Q) : Wq d cb sb k pc lo (vI y :: vI x :: st) M Q := by
  intro l p e R s m args below meth c A D cy X QQ ρ0 n0 mc ms G H locs cells slots ρ ls Y hc hs L
  have K := h l p e R s m args below meth c A D cy X QQ ρ0 n0 mc ms G H locs cells slots ρ ls Y hc hs (L.to (ok_c (v := vI (bUshr x y)) (inR_t _) (ok_t (ok_t L.2.2))))
  refine lv_iushr G.1.1 G.1.2.1 hd (of_t _).symm ?_
  skip
  exact K
theorem wq_ladd {x y : Int} (hd : decode k.2.1 pc = .ok (.ladd, 1))  (h : Wq d cb sb k (pc + 1) lo (vL (wl (x + y)) :: st) M Q) : Wq d cb sb k pc lo (vL y :: vL x :: st) M Q := by
  intro l p e R s m args below meth c A D cy X QQ ρ0 n0 mc ms G H locs cells slots ρ ls Y hc hs L
  have K := h l p e R s m args below meth c A D cy X QQ ρ0 n0 mc ms G H locs cells slots ρ ls Y hc hs (L.to (ok_c (v := vL (wl (x + y))) (wl_in _) (ok_t (ok_t L.2.2))))
  refine lv_ladd G.1.1 G.1.2.1 hd  ?_
  rw [← of_addL]
  exact K
theorem wq_lsub {x y : Int} (hd : decode k.2.1 pc = .ok (.lsub, 1))  (h : Wq d cb sb k (pc + 1) lo (vL (wl (x - y)) :: st) M Q) : Wq d cb sb k pc lo (vL y :: vL x :: st) M Q := by
  intro l p e R s m args below meth c A D cy X QQ ρ0 n0 mc ms G H locs cells slots ρ ls Y hc hs L
  have K := h l p e R s m args below meth c A D cy X QQ ρ0 n0 mc ms G H locs cells slots ρ ls Y hc hs (L.to (ok_c (v := vL (wl (x - y))) (wl_in _) (ok_t (ok_t L.2.2))))
  refine lv_lsub G.1.1 G.1.2.1 hd  ?_
  rw [← of_subL]
  exact K
theorem wq_land {x y : Int} (hd : decode k.2.1 pc = .ok (.land, 1))  (h : Wq d cb sb k (pc + 1) lo (vL (lAnd x y) :: st) M Q) : Wq d cb sb k pc lo (vL y :: vL x :: st) M Q := by
  intro l p e R s m args below meth c A D cy X QQ ρ0 n0 mc ms G H locs cells slots ρ ls Y hc hs L
  have K := h l p e R s m args below meth c A D cy X QQ ρ0 n0 mc ms G H locs cells slots ρ ls Y hc hs (L.to (ok_c (v := vL (lAnd x y)) (inL_t _) (ok_t (ok_t L.2.2))))
  refine lv_land G.1.1 G.1.2.1 hd  ?_
  unfold lAnd at K; simp only [List.map_cons, tv, of_tL] at K
  exact K
theorem wq_lor {x y : Int} (hd : decode k.2.1 pc = .ok (.lor, 1))  (h : Wq d cb sb k (pc + 1) lo (vL (lOr x y) :: st) M Q) : Wq d cb sb k pc lo (vL y :: vL x :: st) M Q := by
  intro l p e R s m args below meth c A D cy X QQ ρ0 n0 mc ms G H locs cells slots ρ ls Y hc hs L
  have K := h l p e R s m args below meth c A D cy X QQ ρ0 n0 mc ms G H locs cells slots ρ ls Y hc hs (L.to (ok_c (v := vL (lOr x y)) (inL_t _) (ok_t (ok_t L.2.2))))
  refine lv_lor G.1.1 G.1.2.1 hd  ?_
  unfold lOr at K; simp only [List.map_cons, tv, of_tL] at K
  exact K
theorem wq_lxor {x y : Int} (hd : decode k.2.1 pc = .ok (.lxor, 1))  (h : Wq d cb sb k (pc + 1) lo (vL (lXor x y) :: st) M Q) : Wq d cb sb k pc lo (vL y :: vL x :: st) M Q := by
  intro l p e R s m args below meth c A D cy X QQ ρ0 n0 mc ms G H locs cells slots ρ ls Y hc hs L
  have K := h l p e R s m args below meth c A D cy X QQ ρ0 n0 mc ms G H locs cells slots ρ ls Y hc hs (L.to (ok_c (v := vL (lXor x y)) (inL_t _) (ok_t (ok_t L.2.2))))
  refine lv_lxor G.1.1 G.1.2.1 hd  ?_
  unfold lXor at K; simp only [List.map_cons, tv, of_tL] at K
  exact K
theorem wq_lshl {x y : Int} (hd : decode k.2.1 pc = .ok (.lshl, 1))  (h : Wq d cb sb k (pc + 1) lo (vL (lShl x y) :: st) M Q) : Wq d cb sb k pc lo (vI y :: vL x :: st) M Q := by
  intro l p e R s m args below meth c A D cy X QQ ρ0 n0 mc ms G H locs cells slots ρ ls Y hc hs L
  have K := h l p e R s m args below meth c A D cy X QQ ρ0 n0 mc ms G H locs cells slots ρ ls Y hc hs (L.to (ok_c (v := vL (lShl x y)) (inL_t _) (ok_t (ok_t L.2.2))))
  refine lv_lshl G.1.1 G.1.2.1 hd (of_tL _).symm ?_
  skip
  exact K
theorem wq_lshr {x y : Int} (hd : decode k.2.1 pc = .ok (.lshr, 1))  (h : Wq d cb sb k (pc + 1) lo (vL (lShr x y) :: st) M Q) : Wq d cb sb k pc lo (vI y :: vL x :: st) M Q := by
  intro l p e R s m args below meth c A D cy X QQ ρ0 n0 mc ms G H locs cells slots ρ ls Y hc hs L
  have K := h l p e R s m args below meth c A D cy X QQ ρ0 n0 mc ms G H locs cells slots ρ ls Y hc hs (L.to (ok_c (v := vL (lShr x y)) (inL_t _) (ok_t (ok_t L.2.2))))
  refine lv_lshr G.1.1 G.1.2.1 hd (of_tL _).symm ?_
  skip
  exact K
theorem wq_lushr {x y : Int} (hd : decode k.2.1 pc = .ok (.lushr, 1))  (h : Wq d cb sb k (pc + 1) lo (vL (lUshr x y) :: st) M Q) : Wq d cb sb k pc lo (vI y :: vL x :: st) M Q := by
  intro l p e R s m args below meth c A D cy X QQ ρ0 n0 mc ms G H locs cells slots ρ ls Y hc hs L
  have K := h l p e R s m args below meth c A D cy X QQ ρ0 n0 mc ms G H locs cells slots ρ ls Y hc hs (L.to (ok_c (v := vL (lUshr x y)) (inL_t _) (ok_t (ok_t L.2.2))))
  refine lv_lushr G.1.1 G.1.2.1 hd (of_tL _).symm ?_
  skip
  exact K
theorem of_cmp {x y : Int} (hx : inL x) (hy : inL y) : lg_cmp (Int64.ofInt x) (Int64.ofInt y) = Int32.ofInt (lCmp x y) := by
  have e : Int64.ofInt x = Int64.ofInt y ↔ x = y := ⟨fun h => by rw [← t_ofL hx, ← t_ofL hy, h], fun h => by rw [h]⟩
  unfold lg_cmp lCmp
  simp only [Int64.lt_iff_toInt_lt, t_ofL hx, t_ofL hy, e, gt_iff_lt]
  by_cases h1 : x < y
  · have h2 : ¬ y < x := by omega
    have h3 : ¬ x = y := by omega
    simp [h1, h2, h3] <;> rfl
  · by_cases h2 : x = y
    · subst h2
      simp <;> rfl
    · have h3 : y < x := by omega
      simp [h1, h2, h3] <;> rfl
theorem lCmp_in (x y : Int) : inR (lCmp x y) := by
  unfold lCmp
  split
  · exact ⟨by decide, by decide⟩
  · split <;> exact ⟨by decide, by decide⟩
theorem wq_lcmp {x y : Int} (hd : decode k.2.1 pc = .ok (.lcmp, 1)) (h : Wq d cb sb k (pc + 1) lo (vI (lCmp x y) :: st) M Q) : Wq d cb sb k pc lo (vL y :: vL x :: st) M Q := by
  intro l p e R s m args below meth c A D cy X QQ ρ0 n0 mc ms G H locs cells slots ρ ls Y hc hs L
  have K := h l p e R s m args below meth c A D cy X QQ ρ0 n0 mc ms G H locs cells slots ρ ls Y hc hs (L.to (ok_c (v := vI (lCmp x y)) (lCmp_in x y) (ok_t (ok_t L.2.2))))
  refine W.lcmp G.1.1 G.1.2.1 hd ?_
  rw [of_cmp (ok_h (ok_t L.2.2)) (ok_h L.2.2)]
  exact K
theorem wq_ineg {x : Int} (hd : decode k.2.1 pc = .ok (.ineg, 1)) (h : Wq d cb sb k (pc + 1) lo (vI (wr (-x)) :: st) M Q) : Wq d cb sb k pc lo (vI x :: st) M Q := by
  intro l p e R s m args below meth c A D cy X QQ ρ0 n0 mc ms G H locs cells slots ρ ls Y hc hs L
  have K := h l p e R s m args below meth c A D cy X QQ ρ0 n0 mc ms G H locs cells slots ρ ls Y hc hs (L.to (ok_c (v := vI (wr (-x))) (wr_in _) (ok_t L.2.2)))
  refine lv_ineg G.1.1 G.1.2.1 hd  ?_
  rw [← of_neg]
  exact K
theorem wq_i2l {x : Int} (hd : decode k.2.1 pc = .ok (.i2l, 1)) (h : Wq d cb sb k (pc + 1) lo (vL (x) :: st) M Q) : Wq d cb sb k pc lo (vI x :: st) M Q := by
  intro l p e R s m args below meth c A D cy X QQ ρ0 n0 mc ms G H locs cells slots ρ ls Y hc hs L
  have K := h l p e R s m args below meth c A D cy X QQ ρ0 n0 mc ms G H locs cells slots ρ ls Y hc hs (L.to (ok_c (v := vL (x)) (show inL x from ⟨by have := (show inR x from ok_h L.2.2).1; omega, by have := (show inR x from ok_h L.2.2).2; omega⟩) (ok_t L.2.2)))
  refine lv_i2l G.1.1 G.1.2.1 hd (of_l (ok_h L.2.2)) ?_
  skip
  exact K
theorem wq_l2i {x : Int} (hd : decode k.2.1 pc = .ok (.l2i, 1)) (h : Wq d cb sb k (pc + 1) lo (vI (wr x) :: st) M Q) : Wq d cb sb k pc lo (vL x :: st) M Q := by
  intro l p e R s m args below meth c A D cy X QQ ρ0 n0 mc ms G H locs cells slots ρ ls Y hc hs L
  have K := h l p e R s m args below meth c A D cy X QQ ρ0 n0 mc ms G H locs cells slots ρ ls Y hc hs (L.to (ok_c (v := vI (wr x)) (wr_in _) (ok_t L.2.2)))
  refine lv_l2i G.1.1 G.1.2.1 hd (of_i x (ok_h L.2.2)) ?_
  skip
  exact K
theorem wq_i2b {x : Int} (hd : decode k.2.1 pc = .ok (.i2b, 1)) (h : Wq d cb sb k (pc + 1) lo (vI (bB x) :: st) M Q) : Wq d cb sb k pc lo (vI x :: st) M Q := by
  intro l p e R s m args below meth c A D cy X QQ ρ0 n0 mc ms G H locs cells slots ρ ls Y hc hs L
  have K := h l p e R s m args below meth c A D cy X QQ ρ0 n0 mc ms G H locs cells slots ρ ls Y hc hs (L.to (ok_c (v := vI (bB x)) (inR_t _) (ok_t L.2.2)))
  refine lv_i2b G.1.1 G.1.2.1 hd (of_t _).symm ?_
  skip
  exact K
theorem wq_i2s {x : Int} (hd : decode k.2.1 pc = .ok (.i2s, 1)) (h : Wq d cb sb k (pc + 1) lo (vI (bS x) :: st) M Q) : Wq d cb sb k pc lo (vI x :: st) M Q := by
  intro l p e R s m args below meth c A D cy X QQ ρ0 n0 mc ms G H locs cells slots ρ ls Y hc hs L
  have K := h l p e R s m args below meth c A D cy X QQ ρ0 n0 mc ms G H locs cells slots ρ ls Y hc hs (L.to (ok_c (v := vI (bS x)) (inR_t _) (ok_t L.2.2)))
  refine lv_i2s G.1.1 G.1.2.1 hd (of_t _).symm ?_
  skip
  exact K
theorem wq_dup {v : Mv} (hd : decode k.2.1 pc = .ok (.dup, 1)) (hv : catM v = 1) (h : Wq d cb sb k (pc + 1) lo (v :: v :: st) M Q) : Wq d cb sb k pc lo (v :: st) M Q := by
  intro l p e R s m args below meth c A D cy X QQ ρ0 n0 mc ms G H locs cells slots ρ ls Y hc hs L
  have K := h l p e R s m args below meth c A D cy X QQ ρ0 n0 mc ms G H locs cells slots ρ ls Y hc hs (L.to (ok_c (ok_h L.2.2) L.2.2))
  exact lv_dup G.1.1 G.1.2.1 hd ((catM_tv ρ v).trans hv) K
theorem wq_pop {v : Mv} (hd : decode k.2.1 pc = .ok (.pop, 1)) (hv : catM v = 1) (h : Wq d cb sb k (pc + 1) lo (st) M Q) : Wq d cb sb k pc lo (v :: st) M Q := by
  intro l p e R s m args below meth c A D cy X QQ ρ0 n0 mc ms G H locs cells slots ρ ls Y hc hs L
  have K := h l p e R s m args below meth c A D cy X QQ ρ0 n0 mc ms G H locs cells slots ρ ls Y hc hs (L.to (ok_t L.2.2))
  exact lv_pop G.1.1 G.1.2.1 hd ((catM_tv ρ v).trans hv) K
theorem wq_dup2 {v w : Mv} (hd : decode k.2.1 pc = .ok (.dup2, 1)) (hv : catM v = 1) (hw : catM w = 1) (h : Wq d cb sb k (pc + 1) lo (v :: w :: v :: w :: st) M Q) : Wq d cb sb k pc lo (v :: w :: st) M Q := by
  intro l p e R s m args below meth c A D cy X QQ ρ0 n0 mc ms G H locs cells slots ρ ls Y hc hs L
  have K := h l p e R s m args below meth c A D cy X QQ ρ0 n0 mc ms G H locs cells slots ρ ls Y hc hs (L.to (ok_c (ok_h L.2.2) (ok_c (ok_h (ok_t L.2.2)) L.2.2)))
  exact lv_dup2_11 G.1.1 G.1.2.1 hd ((catM_tv ρ v).trans hv) ((catM_tv ρ w).trans hw) K
theorem wq_if_eq {x : Int} {off : Int} {tgt : Nat} (hd : decode k.2.1 pc = .ok (.ifCond .eq off, 3)) (ht : (pc : Int) + off = (tgt : Int)) (kt : x = 0 → Wq d cb sb k tgt lo st M Q) (kf : ¬ x = 0 → Wq d cb sb k (pc + 3) lo st M Q) : Wq d cb sb k pc lo (vI x :: st) M Q := by
  intro l p e R s m args below meth c A D cy X QQ ρ0 n0 mc ms G H locs cells slots ρ ls Y hc hs L
  have E := (of_eq (x := x) (y := 0) (ok_h L.2.2) (⟨by decide, by decide⟩ : inR 0))
  rw [of_0] at E
  refine lv_if_eq G.1.1 G.1.2.1 hd ht (fun q => ?_) (fun q => ?_)
  · exact kt (E.mp q) l p e R s m args below meth c A D cy X QQ ρ0 n0 mc ms G H locs cells slots ρ ls Y hc hs (L.to (ok_t L.2.2))
  · exact kf (fun z => q (E.mpr z)) l p e R s m args below meth c A D cy X QQ ρ0 n0 mc ms G H locs cells slots ρ ls Y hc hs (L.to (ok_t L.2.2))
theorem wq_icmp_eq {x y : Int} {off : Int} {tgt : Nat} (hd : decode k.2.1 pc = .ok (.if_icmp .eq off, 3)) (ht : (pc : Int) + off = (tgt : Int)) (kt : x = y → Wq d cb sb k tgt lo st M Q) (kf : ¬ x = y → Wq d cb sb k (pc + 3) lo st M Q) : Wq d cb sb k pc lo (vI y :: vI x :: st) M Q := by
  intro l p e R s m args below meth c A D cy X QQ ρ0 n0 mc ms G H locs cells slots ρ ls Y hc hs L
  have E := (of_eq (x := x) (y := y) (ok_h (ok_t L.2.2)) (ok_h L.2.2))
  refine lv_icmp_eq G.1.1 G.1.2.1 hd ht (fun q => ?_) (fun q => ?_)
  · exact kt (E.mp q) l p e R s m args below meth c A D cy X QQ ρ0 n0 mc ms G H locs cells slots ρ ls Y hc hs (L.to (ok_t (ok_t L.2.2)))
  · exact kf (fun z => q (E.mpr z)) l p e R s m args below meth c A D cy X QQ ρ0 n0 mc ms G H locs cells slots ρ ls Y hc hs (L.to (ok_t (ok_t L.2.2)))
theorem wq_if_ne {x : Int} {off : Int} {tgt : Nat} (hd : decode k.2.1 pc = .ok (.ifCond .ne off, 3)) (ht : (pc : Int) + off = (tgt : Int)) (kt : ¬ x = 0 → Wq d cb sb k tgt lo st M Q) (kf : x = 0 → Wq d cb sb k (pc + 3) lo st M Q) : Wq d cb sb k pc lo (vI x :: st) M Q := by
  intro l p e R s m args below meth c A D cy X QQ ρ0 n0 mc ms G H locs cells slots ρ ls Y hc hs L
  have E := (of_eq (x := x) (y := 0) (ok_h L.2.2) (⟨by decide, by decide⟩ : inR 0))
  rw [of_0] at E
  refine lv_if_ne G.1.1 G.1.2.1 hd ht (fun q => ?_) (fun q => ?_)
  · exact kt (fun z => q (E.mpr z)) l p e R s m args below meth c A D cy X QQ ρ0 n0 mc ms G H locs cells slots ρ ls Y hc hs (L.to (ok_t L.2.2))
  · exact kf (E.mp q) l p e R s m args below meth c A D cy X QQ ρ0 n0 mc ms G H locs cells slots ρ ls Y hc hs (L.to (ok_t L.2.2))
theorem wq_icmp_ne {x y : Int} {off : Int} {tgt : Nat} (hd : decode k.2.1 pc = .ok (.if_icmp .ne off, 3)) (ht : (pc : Int) + off = (tgt : Int)) (kt : ¬ x = y → Wq d cb sb k tgt lo st M Q) (kf : x = y → Wq d cb sb k (pc + 3) lo st M Q) : Wq d cb sb k pc lo (vI y :: vI x :: st) M Q := by
  intro l p e R s m args below meth c A D cy X QQ ρ0 n0 mc ms G H locs cells slots ρ ls Y hc hs L
  have E := (of_eq (x := x) (y := y) (ok_h (ok_t L.2.2)) (ok_h L.2.2))
  refine lv_icmp_ne G.1.1 G.1.2.1 hd ht (fun q => ?_) (fun q => ?_)
  · exact kt (fun z => q (E.mpr z)) l p e R s m args below meth c A D cy X QQ ρ0 n0 mc ms G H locs cells slots ρ ls Y hc hs (L.to (ok_t (ok_t L.2.2)))
  · exact kf (E.mp q) l p e R s m args below meth c A D cy X QQ ρ0 n0 mc ms G H locs cells slots ρ ls Y hc hs (L.to (ok_t (ok_t L.2.2)))
theorem wq_if_lt {x : Int} {off : Int} {tgt : Nat} (hd : decode k.2.1 pc = .ok (.ifCond .lt off, 3)) (ht : (pc : Int) + off = (tgt : Int)) (kt : x < 0 → Wq d cb sb k tgt lo st M Q) (kf : ¬ x < 0 → Wq d cb sb k (pc + 3) lo st M Q) : Wq d cb sb k pc lo (vI x :: st) M Q := by
  intro l p e R s m args below meth c A D cy X QQ ρ0 n0 mc ms G H locs cells slots ρ ls Y hc hs L
  have E := (of_lt (x := x) (y := 0) (ok_h L.2.2) (⟨by decide, by decide⟩ : inR 0))
  rw [of_0] at E
  refine lv_if_lt G.1.1 G.1.2.1 hd ht (fun q => ?_) (fun q => ?_)
  · exact kt (E.mp q) l p e R s m args below meth c A D cy X QQ ρ0 n0 mc ms G H locs cells slots ρ ls Y hc hs (L.to (ok_t L.2.2))
  · exact kf (fun z => q (E.mpr z)) l p e R s m args below meth c A D cy X QQ ρ0 n0 mc ms G H locs cells slots ρ ls Y hc hs (L.to (ok_t L.2.2))
theorem wq_icmp_lt {x y : Int} {off : Int} {tgt : Nat} (hd : decode k.2.1 pc = .ok (.if_icmp .lt off, 3)) (ht : (pc : Int) + off = (tgt : Int)) (kt : x < y → Wq d cb sb k tgt lo st M Q) (kf : ¬ x < y → Wq d cb sb k (pc + 3) lo st M Q) : Wq d cb sb k pc lo (vI y :: vI x :: st) M Q := by
  intro l p e R s m args below meth c A D cy X QQ ρ0 n0 mc ms G H locs cells slots ρ ls Y hc hs L
  have E := (of_lt (x := x) (y := y) (ok_h (ok_t L.2.2)) (ok_h L.2.2))
  refine lv_icmp_lt G.1.1 G.1.2.1 hd ht (fun q => ?_) (fun q => ?_)
  · exact kt (E.mp q) l p e R s m args below meth c A D cy X QQ ρ0 n0 mc ms G H locs cells slots ρ ls Y hc hs (L.to (ok_t (ok_t L.2.2)))
  · exact kf (fun z => q (E.mpr z)) l p e R s m args below meth c A D cy X QQ ρ0 n0 mc ms G H locs cells slots ρ ls Y hc hs (L.to (ok_t (ok_t L.2.2)))
theorem wq_if_ge {x : Int} {off : Int} {tgt : Nat} (hd : decode k.2.1 pc = .ok (.ifCond .ge off, 3)) (ht : (pc : Int) + off = (tgt : Int)) (kt : 0 ≤ x → Wq d cb sb k tgt lo st M Q) (kf : ¬ 0 ≤ x → Wq d cb sb k (pc + 3) lo st M Q) : Wq d cb sb k pc lo (vI x :: st) M Q := by
  intro l p e R s m args below meth c A D cy X QQ ρ0 n0 mc ms G H locs cells slots ρ ls Y hc hs L
  have E := (of_le (x := 0) (y := x) (⟨by decide, by decide⟩ : inR 0) (ok_h L.2.2))
  rw [of_0] at E
  refine lv_if_ge G.1.1 G.1.2.1 hd ht (fun q => ?_) (fun q => ?_)
  · exact kt (E.mp q) l p e R s m args below meth c A D cy X QQ ρ0 n0 mc ms G H locs cells slots ρ ls Y hc hs (L.to (ok_t L.2.2))
  · exact kf (fun z => q (E.mpr z)) l p e R s m args below meth c A D cy X QQ ρ0 n0 mc ms G H locs cells slots ρ ls Y hc hs (L.to (ok_t L.2.2))
theorem wq_icmp_ge {x y : Int} {off : Int} {tgt : Nat} (hd : decode k.2.1 pc = .ok (.if_icmp .ge off, 3)) (ht : (pc : Int) + off = (tgt : Int)) (kt : y ≤ x → Wq d cb sb k tgt lo st M Q) (kf : ¬ y ≤ x → Wq d cb sb k (pc + 3) lo st M Q) : Wq d cb sb k pc lo (vI y :: vI x :: st) M Q := by
  intro l p e R s m args below meth c A D cy X QQ ρ0 n0 mc ms G H locs cells slots ρ ls Y hc hs L
  have E := (of_le (x := y) (y := x) (ok_h L.2.2) (ok_h (ok_t L.2.2)))
  refine lv_icmp_ge G.1.1 G.1.2.1 hd ht (fun q => ?_) (fun q => ?_)
  · exact kt (E.mp q) l p e R s m args below meth c A D cy X QQ ρ0 n0 mc ms G H locs cells slots ρ ls Y hc hs (L.to (ok_t (ok_t L.2.2)))
  · exact kf (fun z => q (E.mpr z)) l p e R s m args below meth c A D cy X QQ ρ0 n0 mc ms G H locs cells slots ρ ls Y hc hs (L.to (ok_t (ok_t L.2.2)))
theorem wq_if_gt {x : Int} {off : Int} {tgt : Nat} (hd : decode k.2.1 pc = .ok (.ifCond .gt off, 3)) (ht : (pc : Int) + off = (tgt : Int)) (kt : 0 < x → Wq d cb sb k tgt lo st M Q) (kf : ¬ 0 < x → Wq d cb sb k (pc + 3) lo st M Q) : Wq d cb sb k pc lo (vI x :: st) M Q := by
  intro l p e R s m args below meth c A D cy X QQ ρ0 n0 mc ms G H locs cells slots ρ ls Y hc hs L
  have E := (of_lt (x := 0) (y := x) (⟨by decide, by decide⟩ : inR 0) (ok_h L.2.2))
  rw [of_0] at E
  refine lv_if_gt G.1.1 G.1.2.1 hd ht (fun q => ?_) (fun q => ?_)
  · exact kt (E.mp q) l p e R s m args below meth c A D cy X QQ ρ0 n0 mc ms G H locs cells slots ρ ls Y hc hs (L.to (ok_t L.2.2))
  · exact kf (fun z => q (E.mpr z)) l p e R s m args below meth c A D cy X QQ ρ0 n0 mc ms G H locs cells slots ρ ls Y hc hs (L.to (ok_t L.2.2))
theorem wq_icmp_gt {x y : Int} {off : Int} {tgt : Nat} (hd : decode k.2.1 pc = .ok (.if_icmp .gt off, 3)) (ht : (pc : Int) + off = (tgt : Int)) (kt : y < x → Wq d cb sb k tgt lo st M Q) (kf : ¬ y < x → Wq d cb sb k (pc + 3) lo st M Q) : Wq d cb sb k pc lo (vI y :: vI x :: st) M Q := by
  intro l p e R s m args below meth c A D cy X QQ ρ0 n0 mc ms G H locs cells slots ρ ls Y hc hs L
  have E := (of_lt (x := y) (y := x) (ok_h L.2.2) (ok_h (ok_t L.2.2)))
  refine lv_icmp_gt G.1.1 G.1.2.1 hd ht (fun q => ?_) (fun q => ?_)
  · exact kt (E.mp q) l p e R s m args below meth c A D cy X QQ ρ0 n0 mc ms G H locs cells slots ρ ls Y hc hs (L.to (ok_t (ok_t L.2.2)))
  · exact kf (fun z => q (E.mpr z)) l p e R s m args below meth c A D cy X QQ ρ0 n0 mc ms G H locs cells slots ρ ls Y hc hs (L.to (ok_t (ok_t L.2.2)))
theorem wq_if_le {x : Int} {off : Int} {tgt : Nat} (hd : decode k.2.1 pc = .ok (.ifCond .le off, 3)) (ht : (pc : Int) + off = (tgt : Int)) (kt : x ≤ 0 → Wq d cb sb k tgt lo st M Q) (kf : ¬ x ≤ 0 → Wq d cb sb k (pc + 3) lo st M Q) : Wq d cb sb k pc lo (vI x :: st) M Q := by
  intro l p e R s m args below meth c A D cy X QQ ρ0 n0 mc ms G H locs cells slots ρ ls Y hc hs L
  have E := (of_le (x := x) (y := 0) (ok_h L.2.2) (⟨by decide, by decide⟩ : inR 0))
  rw [of_0] at E
  refine lv_if_le G.1.1 G.1.2.1 hd ht (fun q => ?_) (fun q => ?_)
  · exact kt (E.mp q) l p e R s m args below meth c A D cy X QQ ρ0 n0 mc ms G H locs cells slots ρ ls Y hc hs (L.to (ok_t L.2.2))
  · exact kf (fun z => q (E.mpr z)) l p e R s m args below meth c A D cy X QQ ρ0 n0 mc ms G H locs cells slots ρ ls Y hc hs (L.to (ok_t L.2.2))
theorem wq_icmp_le {x y : Int} {off : Int} {tgt : Nat} (hd : decode k.2.1 pc = .ok (.if_icmp .le off, 3)) (ht : (pc : Int) + off = (tgt : Int)) (kt : x ≤ y → Wq d cb sb k tgt lo st M Q) (kf : ¬ x ≤ y → Wq d cb sb k (pc + 3) lo st M Q) : Wq d cb sb k pc lo (vI y :: vI x :: st) M Q := by
  intro l p e R s m args below meth c A D cy X QQ ρ0 n0 mc ms G H locs cells slots ρ ls Y hc hs L
  have E := (of_le (x := x) (y := y) (ok_h (ok_t L.2.2)) (ok_h L.2.2))
  refine lv_icmp_le G.1.1 G.1.2.1 hd ht (fun q => ?_) (fun q => ?_)
  · exact kt (E.mp q) l p e R s m args below meth c A D cy X QQ ρ0 n0 mc ms G H locs cells slots ρ ls Y hc hs (L.to (ok_t (ok_t L.2.2)))
  · exact kf (fun z => q (E.mpr z)) l p e R s m args below meth c A D cy X QQ ρ0 n0 mc ms G H locs cells slots ρ ls Y hc hs (L.to (ok_t (ok_t L.2.2)))
theorem wq_goto {off : Int} {tgt : Nat} (hd : decode k.2.1 pc = .ok (.goto off, 3)) (ht : (pc : Int) + off = (tgt : Int)) (h : Wq d cb sb k tgt lo st M Q) : Wq d cb sb k pc lo st M Q := by
  intro l p e R s m args below meth c A D cy X QQ ρ0 n0 mc ms G H locs cells slots ρ ls Y hc hs L
  exact lv_goto G.1.1 G.1.2.1 hd ht (h l p e R s m args below meth c A D cy X QQ ρ0 n0 mc ms G H locs cells slots ρ ls Y hc hs (L))
theorem wq_tabOut {x : Int} {df l0 h0 : Int} {offs : Array Int} {len tgt : Nat} (hd : decode k.2.1 pc = .ok (.tableswitch df l0 h0 offs, len)) (hx : x < l0 ∨ h0 < x) (ht : (pc : Int) + df = (tgt : Int)) (h : Wq d cb sb k tgt lo st M Q) : Wq d cb sb k pc lo (vI x :: st) M Q := by
  intro l p e R s m args below meth c A D cy X QQ ρ0 n0 mc ms G H locs cells slots ρ ls Y hc hs L
  exact lv_tableOut G.1.1 G.1.2.1 hd (by rw [t_of (ok_h L.2.2)]; exact hx) ht (h l p e R s m args below meth c A D cy X QQ ρ0 n0 mc ms G H locs cells slots ρ ls Y hc hs (L.to (ok_t L.2.2)))
theorem wq_tabIn {x : Int} {df l0 h0 off : Int} {offs : Array Int} {len tgt : Nat} (hd : decode k.2.1 pc = .ok (.tableswitch df l0 h0 offs, len)) (h1 : l0 ≤ x) (h2 : x ≤ h0) (ho : offs[(x - l0).toNat]? = some off) (ht : (pc : Int) + off = (tgt : Int)) (h : Wq d cb sb k tgt lo st M Q) : Wq d cb sb k pc lo (vI x :: st) M Q := by
  intro l p e R s m args below meth c A D cy X QQ ρ0 n0 mc ms G H locs cells slots ρ ls Y hc hs L
  exact lv_tableIn G.1.1 G.1.2.1 hd (by rw [t_of (ok_h L.2.2)]; omega) (by rw [t_of (ok_h L.2.2)]; omega) (by rw [t_of (ok_h L.2.2)]; exact ho) ht (h l p e R s m args below meth c A D cy X QQ ρ0 n0 mc ms G H locs cells slots ρ ls Y hc hs (L.to (ok_t L.2.2)))
theorem wq_look {x : Int} {df off : Int} {ps : Array (Int × Int)} {len tgt : Nat} (hd : decode k.2.1 pc = .ok (.lookupswitch df ps, len)) (hp : (ps.toList.zip (ps.toList.drop 1)).all (fun (a, next) => a.1 < next.1) = true) (ho : Op.lookupswitch.offset ps.toList df x = off) (ht : (pc : Int) + off = (tgt : Int)) (h : Wq d cb sb k tgt lo st M Q) : Wq d cb sb k pc lo (vI x :: st) M Q := by
  intro l p e R s m args below meth c A D cy X QQ ρ0 n0 mc ms G H locs cells slots ρ ls Y hc hs L
  exact lv_lookup G.1.1 G.1.2.1 hd hp (by rw [t_of (ok_h L.2.2)]; exact ho) ht (h l p e R s m args below meth c A D cy X QQ ρ0 n0 mc ms G H locs cells slots ρ ls Y hc hs (L.to (ok_t L.2.2)))
theorem wq_ireturn {x : Int} (hd : decode k.2.1 pc = .ok (.ireturn, 1)) (hr : retOK k (some (vI x))) (h : Q M (some (vI x))) : Wq d cb sb k pc lo [vI x] M Q := by
  intro l p e R s m args below meth c A D cy X QQ ρ0 n0 mc ms G H locs cells slots ρ ls Y hc hs L
  exact G.2.2.2.2.2 pc ls H locs cells slots ρ M (some (vI x)) h Y (by omega) (by omega) hr (fun w e => by cases e; exact ok_h L.2.2) hd
theorem wq_return (hd : decode k.2.1 pc = .ok (.return_, 1)) (hr : retOK k none) (h : Q M none) : Wq d cb sb k pc lo [] M Q := by
  intro l p e R s m args below meth c A D cy X QQ ρ0 n0 mc ms G H locs cells slots ρ ls Y hc hs L
  exact G.2.2.2.2.2 pc ls H locs cells slots ρ M none h Y (by omega) (by omega) hr (fun w e => by cases e) hd
end ROWS
