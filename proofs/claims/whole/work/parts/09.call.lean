/-! ===== rows of the walk: calls ===== -/
def mOK (k' : Md) (n : Nat) : Prop := plainName k'.1.cls = true ∧ Cond.code k'.1 k'.2.1 k'.2.2.1 k'.2.2.2 ∈ gw ∧ Cond.initialized k'.1.cls ∈ gw ∧ (k'.1.cls ≠ "java/lang/invoke/MethodHandle" ∧ k'.1.cls ≠ "java/lang/invoke/VarHandle" ∧ (parseMethodDescriptor k'.1.desc).map (fun d => d.parameters.length) = some n) ∧ k'.2.2.1 ≤ 30
def wsM (k' : Md) : List Cond := Cond.code k'.1 k'.2.1 k'.2.2.1 k'.2.2.2 :: gw
theorem good_gw {k' : Md} {n : Nat} (h : mOK k' n) : GoodIn gw (wsM k') := by
  intro w hw
  rcases List.mem_cons.mp hw with rfl | q
  · exact ⟨h.2.1, good_of_word (gw_good h.2.1)⟩
  · exact ⟨q, good_of_word (gw_good q)⟩
theorem good_app {a b : List Cond} (ha : ∀ w ∈ a, w ∈ gw) (hb : GoodIn gw b) : GoodIn gw (a ++ b) := fun w hw => (List.mem_append.mp hw).elim (fun q => ⟨ha w q, good_of_word (gw_good (ha w q))⟩) (hb w)
def spr : List Mv → List Lv
  | [] => []
  | .inr (.inl x) :: l => some (.inr (.inl x)) :: none :: spr l
  | .inl x :: l => some (.inl x) :: spr l
  | .inr (.inr x) :: l => some (.inr (.inr x)) :: spr l
theorem spr_len (ρ : Nat → Nat) : ∀ as : List Mv, (lg_sl (as.map (tv ρ))).length = (spr as).length
  | [] => rfl
  | .inr (.inl x) :: l => by
    have ih := spr_len ρ l
    simp only [lg_sl, List.map_cons, List.flatMap_cons, List.length_append] at ih ⊢
    rw [ih]
    simp [tv, Value.category, spr]
    omega
  | .inl x :: l => by
    have ih := spr_len ρ l
    simp only [lg_sl, List.map_cons, List.flatMap_cons, List.length_append] at ih ⊢
    rw [ih]
    simp [tv, Value.category, spr]
    omega
  | .inr (.inr x) :: l => by
    have ih := spr_len ρ l
    simp only [lg_sl, List.map_cons, List.flatMap_cons, List.length_append] at ih ⊢
    rw [ih]
    cases x <;> (simp [tv, Value.category, spr]; omega)
theorem spr_at (ρ : Nat → Nat) : ∀ (as : List Mv) (i : Nat) (v : Mv), (spr as)[i]? = some (some v) → (lg_sl (as.map (tv ρ)))[i]? = some (.val (tv ρ v)) ∧ v ∈ as
  | [], _, _, h => by simp [spr] at h
  | .inr (.inl x) :: l, 0, v, h => by
    simp [spr] at h
    subst h
    exact ⟨rfl, List.mem_cons_self⟩
  | .inr (.inl x) :: l, 1, v, h => by simp [spr] at h
  | .inr (.inl x) :: l, i + 2, v, h => by
    have ih := spr_at ρ l i v (by simpa [spr] using h)
    exact ⟨ih.1, List.mem_cons_of_mem _ ih.2⟩
  | .inl x :: l, 0, v, h => by
    simp [spr] at h
    subst h
    exact ⟨rfl, List.mem_cons_self⟩
  | .inl x :: l, i + 1, v, h => by
    have ih := spr_at ρ l i v (by simpa [spr] using h)
    exact ⟨ih.1, List.mem_cons_of_mem _ ih.2⟩
  | .inr (.inr x) :: l, 0, v, h => by
    simp [spr] at h
    subst h
    cases x <;> exact ⟨rfl, List.mem_cons_self⟩
  | .inr (.inr x) :: l, i + 1, v, h => by
    have ih := spr_at ρ l i v (by simpa [spr] using h)
    refine ⟨?_, List.mem_cons_of_mem _ ih.2⟩
    cases x <;> exact ih.1
theorem Dl_entry {k' : Md} {ρ : Nat → Nat} {n : Nat} {as : List Mv} {lo' : List Lv} (hlo : spr as ++ List.replicate (k'.2.2.1 - (spr as).length) none = lo') (hle : (spr as).length ≤ k'.2.2.1) (hv : ∀ v ∈ as, okv n v) :
    Dl k' ρ n ((lg_sl (as.map (tv ρ)) ++ List.replicate (k'.2.2.1 - (lg_sl (as.map (tv ρ))).length) Slot.unset).toArray) lo' [] := by
  subst hlo
  have hl := lv_entry (as.map (tv ρ)) (n := k'.2.2.1) (by rw [spr_len]; exact hle)
  have key : ∀ (i : Nat) (v : Mv), (spr as ++ List.replicate (k'.2.2.1 - (spr as).length) none)[i]? = some (some v) → (spr as)[i]? = some (some v) := by
    intro i v h
    by_cases hi : i < (spr as).length
    · rwa [List.getElem?_append_left hi] at h
    · rw [List.getElem?_append_right (by omega)] at h
      have := List.mem_of_getElem? h
      simp at this
  refine ⟨⟨by simp; omega, hl.1, hl.2.1, fun i v h => ?_⟩, fun i v h => hv v (spr_at ρ as i v (key i v h)).2, fun _ h => by cases h⟩
  have h1 := (spr_at ρ as i v (key i v h)).1
  have hi := (List.getElem?_eq_some_iff.mp h1).1
  rw [List.getElem?_toArray, List.getElem?_append_left hi]
  exact h1
def BM (ρ : Nat → Nat) (sz : Nat) (D : va_G) (cy : Nat → ClassId) (M : Mm) (X : Nat → Int → Int) : State → Prop := fun U => U.heap.size = sz ∧ va_P D vwCl (wd cy ρ M) U.heap ∧ va_K D vwCl (tyL cy) U ∧ (∀ w ∈ nw, va_Nw w U) ∧ exO ρ X (va_A (wd cy ρ M) sz) U U.heap
def QcM (Q' : Mm → Option Mv → Prop) (ρ : Nat → Nat) (sz : Nat) (D : va_G) (cy : Nat → ClassId) (M : Mm) (X : Nat → Int → Int) : Array Value → State → Outcome → State → Prop := fun _ st o t =>
  ∃ (M' : Mm) (v : Option Mv) (ρ' : Nat → Nat), o = .returned (v.map (tv ρ')) ∧ Q' M' v ∧ va_P D vwCl (wd cy ρ' M') t.heap ∧ va_D (va_A (wd cy ρ M) sz) (wd cy ρ' M') ∧ okM M' ∧ (∀ a i, 1000 ≤ a → gI M' a i = X a i) ∧ (∀ w, v = some w → okv (nx M') w) ∧ (∀ a, a < nx M ∨ 1000 ≤ a → ρ' a = ρ a) ∧ nx M ≤ nx M' ∧ va_F (va_A (wd cy ρ M) sz) st t
theorem met_of {d cb sb n : Nat} {k' : Md} {as : List Mv} {lo' : List Lv} {M : Mm} {Q' : Mm → Option Mv → Prop} {ρ : Nat → Nat} {D : va_G} {cy : Nat → ClassId} {X : Nat → Int → Int} {A : Nat → Prop} (l : Launch) (sz : Nat) (hk : mOK k' n) (hlo : spr as ++ List.replicate (k'.2.2.1 - (spr as).length) none = lo') (hle : (spr as).length ≤ k'.2.2.1)
    (hok : okM M) (hva : ∀ v ∈ as, okv (nx M) v) (hX : ∀ a i, 1000 ≤ a → gI M a i = X a i) (hD : va_D A (wd cy ρ M)) (h : Wq d cb sb k' 0 lo' [] M Q') :
    Met l k'.1 (wsM k') { frames := d, cells := cb, slots := sb, locals := 60 * d } (va_Pc (as.map (tv ρ)) (BM ρ sz D cy M X)) (QcM Q' ρ sz D cy M X) cb sb (va_A (wd cy ρ M) sz) := by
  refine Met.ofW (cc := k'.2.1) (maxL := k'.2.2.1) (ret := k'.2.2.2) hk.1 rfl ?_
  intro p e s m args below meth c s₁ B hml hv
  obtain ⟨rfl, hsz, hP, hK, hN, hE⟩ := hv
  subst hsz
  have hts := atoms_spec (ws := wsM k') B.pre
  rw [lg_entry_eq]
  refine h l p e _ s m _ below meth c (va_A (wd cy ρ M) s.heap.size) D cy X _ ρ (nx M) cb sb ⟨⟨B.exec, B.bytes, hml, findClass_of_methodNamed B.named, fun w hw => hts w (List.mem_cons_of_mem _ hw), hN, (name_of_methodNamed B.named B.method).1⟩, hK, fun q hq => Or.inr hq, hE, ⟨Nat.le_refl _, Nat.le_refl _, Nat.le_refl _, Nat.le_refl _⟩, ?_⟩ s.heap [] 0 0 ρ _ ⟨hP, hD.self, va_S.rf, hok, hX, fun _ _ => rfl, Nat.le_refl _⟩ (by omega) (by omega) (Dl_entry hlo hle hva)
  intro pc ls H locs cells slots ρ' M' v hq Y hc hs hro hov hdec
  have hret := B.returns
  refine W.widen hc hs ?_
  have fin : ∀ t : State, t.heap = H → s.WarmedH t.vm → QcM Q' ρ s.heap.size D cy M X (as.map (tv ρ)).toArray s (.returned (v.map (tv ρ'))) t := fun t ht _ => ⟨M', v, ρ', rfl, hq, by rw [ht]; exact Y.1, Y.2.1, Y.2.2.2.1, Y.2.2.2.2.1, hov, Y.2.2.2.2.2.1, Y.2.2.2.2.2.2, Y.2.2.1.F ht⟩
  unfold retOK at hro
  split at hro
  · rename_i x e1
    exact W.iret B.exec B.bytes (hret.trans e1) fin Y.2.2.1.2.2 hdec
  · rename_i x e1
    refine W.zret B.exec B.bytes (hret.trans e1) ?_ fin Y.2.2.1.2.2 hdec
    rcases hro with rfl | rfl <;> rfl
  · rename_i e1
    exact W.vret B.exec B.bytes (hret.trans e1) fin Y.2.2.1.2.2 hdec
  · exact hro.elim
theorem blind_BM (av : List Value) (ρ : Nat → Nat) (sz : Nat) (D : va_G) (cy : Nat → ClassId) (M : Mm) (X : Nat → Int → Int) : FrameBlind (va_Pc av (BM ρ sz D cy M X)) := by
  intro a U g mk q
  obtain ⟨q0, q1, qP, qK, qN, ⟨⟨N, x1, x2, x3, x4⟩, ⟨y1, y2⟩, ⟨z1, z2⟩, w1⟩⟩ := q
  have al : U.vm.Alike (U.calling g mk a).vm := Vm.Alike.refl U.vm
  refine ⟨q0, q1, qP, va_K.moved (u := U) (U := U.calling g mk a) al qK, fun w hw => va_Nw.same (u := U) (U := U.calling g mk a) ?_ rfl (qN w hw), ⟨⟨N, x1, x2, va_X.moved (u := U) (U := U.calling g mk a) al x3, x4⟩, ⟨va_Z.moved (u := U) (U := U.calling g mk a) al y1, va_T.moved (u := U) (U := U.calling g mk a) al y2⟩, ⟨va_Z.moved (u := U) (U := U.calling g mk a) al z1, va_T.moved (u := U) (U := U.calling g mk a) al z2⟩, va_AO.moved (u := U) (U := U.calling g mk a) al w1⟩⟩
  have h2 := (List.mem_filter.mp hw).2
  unfold isNest at h2
  split at h2
  · rfl
  · rfl
  · cases h2
section CALL
variable {d d' cb sb cb' sb' : Nat} {k k' : Md} {pc : Nat} {lo : List Lv} {st rest : List Mv} {M : Mm} {Q Q' : Mm → Option Mv → Prop}
variable {l : Launch} {p : Program} {e : Env} {R : Room} {s : State} {m : MethodId} {args : Array Value} {below : List Frame} {meth : Method} {c : Code} {A : Nat → Prop} {D : va_G} {cy : Nat → ClassId} {X : Nat → Int → Int} {QQ : State → Prop} {ρ0 : Nat → Nat} {n0 mc ms : Nat} {H : Heap} {locs : List Loc} {cells slots : Nat} {ρ : Nat → Nat} {ls : Array Slot}
theorem call_free (G : Gd d k Q l p e R s m args below meth c A D cy X QQ ρ0 n0 mc ms) (Y : Dh s A D cy X ρ0 n0 H locs ρ M) : ∀ q, va_A (wd cy ρ M) H.size q → A q := by
  intro q hq
  rcases hq with ⟨j, e, hj⟩ | hq
  · exact Y.2.1.2 j (q, e) hj
  · exact G.2.2.1 q (Nat.le_trans Y.2.2.1.1 hq)
theorem call_pre (G : Gd d k Q l p e R s m args below meth c A D cy X QQ ρ0 n0 mc ms) (Y : Dh s A D cy X ρ0 n0 H locs ρ M) : ∀ U : State, U.heap = H → s.WarmedH U.vm → BM ρ H.size D cy M X U := by
  intro U hU hW
  have al := hW.alike
  have hfr := call_free G Y
  have hk : ∀ a : Nat, a < s.heap.size → ¬ A a → H[a]? = s.heap[a]? := Y.2.2.1.2.1
  have r0 : ρ 1000 = ρ0 1000 := Y.2.2.2.2.2.1 1000 (Or.inr (by decide))
  have r1 : ρ 1001 = ρ0 1001 := Y.2.2.2.2.2.1 1001 (Or.inr (by decide))
  have r2 : ρ 1002 = ρ0 1002 := Y.2.2.2.2.2.1 1002 (Or.inr (by decide))
  obtain ⟨⟨N, x1, x2, x3, x4, x5⟩, ⟨y1, y2⟩, ⟨z1, z2⟩, w1⟩ := G.2.2.2.1
  refine ⟨by rw [hU], by rw [hU]; exact Y.1, va_K.moved al G.2.1, fun w hw => ?_, ?_⟩
  · have hz := G.1.2.2.2.2.2.1 w hw
    have h2 := (List.mem_filter.mp hw).2
    unfold isNest at h2
    split at h2
    · exact va_Nw.warmM hW hz
    · exact va_Nw.warmF hW hz
    · cases h2
  · unfold exO
    rw [hU, r0, r1, r2]
    exact ⟨⟨N, x1, x2, va_X.moved al (va_X.kept x3 (hk _ x4 x5)), Nat.lt_of_lt_of_le x4 Y.2.2.1.1, fun q => x5 (hfr _ q)⟩, ⟨va_Z.moved al ((va_Z.kept y1 hk).narrow hfr), va_T.moved al ((va_T.kept y2 hk).narrow hfr)⟩, ⟨va_Z.moved al ((va_Z.kept z1 hk).narrow hfr), va_T.moved al ((va_T.kept z2 hk).narrow hfr)⟩, va_AO.moved al w1⟩
theorem call_go {a : Array Value} {st0 : List Value} (G : Gd d k Q l p e R s m args below meth c A D cy X QQ ρ0 n0 mc ms) (Y : Dh s A D cy X ρ0 n0 H locs ρ M) (L : Dl k ρ (nx M) ls lo rest) (hc : cells + (cb' + cb) ≤ mc) (hs : slots + (sb' + sb) ≤ ms)
    (hr : va_Run p l e R s m args below meth c H locs cells slots cb' sb' (F0 m pc ls st0) (rest.map (tv ρ)) (QcM Q' ρ H.size D cy M X a) (va_A (wd cy ρ M) H.size))
    (hk : ∀ M' v, Q' M' v → Wq d cb sb k (pc + 3) lo (v.toList ++ rest) M' Q) : W p l e R s m args below meth c H locs cells slots QQ (F0 m pc ls st0) := by
  intro T hT X0
  obtain ⟨v, st₀, t, T', Lc, h0, X', hL, e1, e2, ⟨M', w, ρ', hv, hq, hP', hD', hok', hX', hov, hρ, hn, hF⟩, stp⟩ := hr T hT X0
  have hv : v = w.map (tv ρ') := by injection hv
  subst hv
  have hfr := call_free G Y
  have Y' : Dh s A D cy X ρ0 n0 T'.heap (locs ++ Lc) ρ' M' := by
    refine ⟨by rw [e1]; exact hP', hD'.weaken (fun _ q _ h => hfr q.1 h), ⟨?_, ?_, ?_⟩, hok', hX', fun a h => (hρ a ?_).trans (Y.2.2.2.2.2.1 a h), Nat.le_trans Y.2.2.2.2.2.2 hn⟩
    · rw [e1]
      exact Nat.le_trans Y.2.2.1.1 (by rw [← h0]; exact hF.1)
    · intro q h1 h2
      rw [e1, hF.2 q (by rw [h0]; exact Nat.lt_of_lt_of_le h1 Y.2.2.1.1) (fun z => h2 (hfr q z)), h0]
      exact Y.2.2.1.2.1 q h1 h2
    · intro q hq
      rcases List.mem_append.mp hq with z | z
      · exact Y.2.2.1.2.2 q z
      · exact hfr _ (hL q z)
    · rcases h with h | h
      · exact Or.inl (Nat.lt_of_lt_of_le h Y.2.2.2.2.2.2)
      · exact Or.inr h
  have hst : ∀ x ∈ w.toList ++ rest, okv (nx M') x := by
    intro x hx
    rcases List.mem_append.mp hx with z | z
    · exact hov x (by simpa using z)
    · exact okv_mono hn (L.2.2 x z)
  have K := hk M' w hq l p e R s m args below meth c A D cy X QQ ρ0 n0 mc ms G T'.heap (locs ++ Lc) (cells + cb') (slots + sb') ρ' ls Y' (by omega) (by omega) ((L.rho hn hρ).to hst)
  obtain ⟨t2, a1, b1⟩ := K T' rfl X'
  refine ⟨t2, stp t2 ?_, b1⟩
  rw [List.map_append, st_rho L.2.2 hρ] at a1
  cases w with
  | none => exact a1
  | some x => exact a1
theorem sum_tv (ρ : Nat → Nat) (st : List Mv) : ((st.map (tv ρ)).map fun v => v.category).sum = (st.map catM).sum := by
  rw [List.map_map]
  exact congrArg List.sum (List.map_congr_left (fun v _ => catM_tv ρ v))
def lkV (own : String) (idx : Nat) (k' : Md) : Prop := Cond.methodLink own idx k'.1 ∈ gw ∧ Cond.instanceMethod k'.1 ∈ gw ∧ Cond.selects k'.1.cls k'.1 k'.1 ∈ gw
def lkS (own : String) (idx : Nat) (k' : Md) : Prop := Cond.methodLink own idx k'.1 ∈ gw ∧ Cond.static k'.1 ∈ gw
def lkI (own : String) (idx : Nat) (k' : Md) : Prop := Cond.methodLink own idx k'.1 ∈ gw ∧ Cond.instanceMethod k'.1 ∈ gw ∧ k'.1.name = "<init>" ∧ k'.2.2.2 = none
def lkSN (own : String) (idx : Nat) (k' : Md) : Prop := Cond.methodLinkNest own idx k'.1 "WhoseDelay" ∈ nw ∧ Cond.static k'.1 ∈ gw
def lkIN (own : String) (idx : Nat) (k' : Md) : Prop := Cond.methodLinkNest own idx k'.1 "WhoseDelay" ∈ nw ∧ Cond.instanceMethod k'.1 ∈ gw ∧ k'.1.name = "<init>" ∧ k'.2.2.2 = none
theorem call_room (G : Gd d k Q l p e R s m args below meth c A D cy X QQ ρ0 n0 mc ms) {n : Nat} (hk : mOK k' n) (hdd : d'.blt d = true) : d' + 1 ≤ R.frames ∧ 8 + (k'.2.2.1 + 11) + 60 * d' ≤ R.locals := by
  have h1 := Nat.blt_eq.mp hdd
  have h2 := G.2.2.2.2.1
  have h3 := hk.2.2.2.2
  omega
/-- a call of an instance method (own class, or one that is seen) -/
theorem wq_callV' {idx n a ci N : Nat} {T : u_T} {as : List Mv} {lo' : List Lv} (hd : decode k.2.1 pc = .ok (.invokevirtual idx, 3)) (hk : mOK k' n) (hl : lkV k.1.cls idx k') (ha : sh a = (ci, N)) (hci : ci < 20) (hcl : vwCl[ci]? = some (k'.1.cls, T, N)) (hn : as.length = n) (hlo : spr (vR a :: as) ++ List.replicate (k'.2.2.1 - (spr (vR a :: as)).length) none = lo') (hle : ((spr (vR a :: as)).length).ble k'.2.2.1 = true) (hst : st = as.reverse ++ vR a :: rest) (h8 : ((rest.map catM).sum).ble 8 = true) (hdd : d'.blt d = true)
    (h : Wq d' cb' sb' k' 0 lo' [] M (fun M' v => Wq d cb sb k (pc + 3) lo (v.toList ++ rest) M' Q)) : Wq d (cb' + cb) (sb' + sb) k pc lo st M Q := by
  intro l p e R s m args below meth c A D cy X QQ ρ0 n0 mc ms G H locs cells slots ρ ls Y hc hs L
  subst hst
  have hrest : ∀ v ∈ rest, okv (nx M) v := fun v hv => L.2.2 v (List.mem_append_right _ (List.mem_cons_of_mem _ hv))
  have hasok : ∀ v ∈ vR a :: as, okv (nx M) v := by
    intro v hv
    rcases List.mem_cons.mp hv with rfl | q
    · exact L.2.2 _ (List.mem_append_right _ List.mem_cons_self)
    · exact L.2.2 v (List.mem_append_left _ (List.mem_reverse.mpr q))
  have hm := met_of (D := D) (cy := cy) (X := X) (ρ := ρ) l H.size hk hlo (Nat.le_of_ble_eq_true hle) Y.2.2.2.1 hasok Y.2.2.2.2.1 Y.2.1 h
  have ha' : a < nx M := own_lt ha hci (hasok _ List.mem_cons_self)
  have he := wd_at (cy := cy) (ρ := ρ) ha'
  rw [en_o ha hci] at he
  have hts := G.1.2.2.2.2.1
  have hR := G.2.2.2.2.1
  have hfr : (F0 m pc ls ((as.reverse ++ vR a :: rest).map (tv ρ))) = F0 m pc ls ((as.map (tv ρ)).reverse ++ .ref (ρ a) :: rest.map (tv ρ)) := by
    rw [List.map_append, List.map_reverse, List.map_cons]; rfl
  rw [hfr]
  refine call_go G Y (L.to hrest) hc hs (va_runV (C := k'.1.cls) (As := as.map (tv ρ)) (rest := rest.map (tv ρ)) ⟨G.1.1, G.1.2.1, G.1.2.2.1, G.1.2.2.2.1, hts⟩ hm (cwV n hts (good_app (fun w hw => ?_) (good_gw hk)) rfl rfl rfl ⟨rfl, hk.2.2.2.1⟩ (call_room G hk hdd)) ⟨blind_BM _ _ _ _ _ _ _, va_recv G.2.1 Y.1 hcl he, fun U hU hW => ⟨by rfl, call_pre G Y U hU hW⟩⟩ rfl (by rw [List.length_map]; exact hn) L.1.2.1 rfl ?_ hd ⟨by omega, by omega⟩) (fun M' v q => q)
  · simp only [List.mem_cons, List.not_mem_nil, or_false] at hw
    rcases hw with rfl | rfl | rfl | rfl
    · exact hl.1
    · exact hl.2.1
    · exact hl.2.2
    · exact hk.2.2.1
  · show 2 * 0 + _ ≤ 8
    rw [sum_tv]
    have := Nat.le_of_ble_eq_true h8
    omega
theorem wq_callV {idx n a ci N : Nat} {T : u_T} {as : List Mv} {lo' : List Lv} (hd : decode k.2.1 pc = .ok (.invokevirtual idx, 3)) (hk : mOK k' n) (hl : lkV k.1.cls idx k') (ha : sh a = (ci, N)) (hci : ci < 20) (hcl : vwCl[ci]? = some (k'.1.cls, T, N)) (hn : as.length = n) (hlo : spr (vR a :: as) ++ List.replicate (k'.2.2.1 - (spr (vR a :: as)).length) none = lo') (hle : ((spr (vR a :: as)).length).ble k'.2.2.1 = true) (hst : st = as.reverse ++ vR a :: rest) (h8 : ((rest.map catM).sum).ble 8 = true) (hdd : d'.blt d = true)
    (h : Wq d' 0 0 k' 0 lo' [] M (fun M' v => Wq d cb sb k (pc + 3) lo (v.toList ++ rest) M' Q)) : Wq d cb sb k pc lo st M Q := by
  have K := wq_callV' hd hk hl ha hci hcl hn hlo hle hst h8 hdd h
  rwa [Nat.zero_add, Nat.zero_add] at K
theorem wq_callS {idx n : Nat} {as : List Mv} {lo' : List Lv} (hd : decode k.2.1 pc = .ok (.invokestatic idx, 3)) (hk : mOK k' n) (hl : lkS k.1.cls idx k' ∨ lkSN k.1.cls idx k') (hn : as.length = n) (hlo : spr as ++ List.replicate (k'.2.2.1 - (spr as).length) none = lo') (hle : ((spr as).length).ble k'.2.2.1 = true) (hst : st = as.reverse ++ rest) (h8 : ((rest.map catM).sum).ble 8 = true) (hdd : d'.blt d = true)
    (h : Wq d' 0 0 k' 0 lo' [] M (fun M' v => Wq d cb sb k (pc + 3) lo (v.toList ++ rest) M' Q)) : Wq d cb sb k pc lo st M Q := by
  intro l p e R s m args below meth c A D cy X QQ ρ0 n0 mc ms G H locs cells slots ρ ls Y hc hs L
  subst hst
  have hrest : ∀ v ∈ rest, okv (nx M) v := fun v hv => L.2.2 v (List.mem_append_right _ hv)
  have hasok : ∀ v ∈ as, okv (nx M) v := fun v q => L.2.2 v (List.mem_append_left _ (List.mem_reverse.mpr q))
  have hm := met_of (D := D) (cy := cy) (X := X) (ρ := ρ) l H.size hk hlo (Nat.le_of_ble_eq_true hle) Y.2.2.2.1 hasok Y.2.2.2.2.1 Y.2.1 h
  have hts := G.1.2.2.2.2.1
  have hR := G.2.2.2.2.1
  have hfr : (F0 m pc ls ((as.reverse ++ rest).map (tv ρ))) = F0 m pc ls ((as.map (tv ρ)).reverse ++ rest.map (tv ρ)) := by
    rw [List.map_append, List.map_reverse]
  rw [hfr]
  have h8' : 2 * 0 + ((rest.map (tv ρ)).map fun v => v.category).sum ≤ 8 := by
    rw [sum_tv]
    have := Nat.le_of_ble_eq_true h8
    omega
  rcases hl with hl | hl
  · refine call_go (cb' := 0) (sb' := 0) G Y (L.to hrest) (by omega) (by omega) (va_runS (As := as.map (tv ρ)) (rest := rest.map (tv ρ)) ⟨G.1.1, G.1.2.1, G.1.2.2.1, G.1.2.2.2.1, hts⟩ hm (va_cwS n hts (good_app (fun w hw => ?_) (good_gw hk)) rfl rfl rfl hk.2.2.2.1 (call_room G hk hdd)) ⟨blind_BM _ _ _ _ _ _ _, fun U hU hW => ⟨rfl, call_pre G Y U hU hW⟩⟩ rfl (by rw [List.length_map]; exact hn) L.1.2.1 rfl h8' hd ⟨by omega, by omega⟩) (fun M' v q => q)
    simp only [List.mem_cons, List.not_mem_nil, or_false] at hw
    rcases hw with rfl | rfl | rfl
    · exact hl.1
    · exact hl.2
    · exact hk.2.2.1
  · exact call_go (cb' := 0) (sb' := 0) G Y (L.to hrest) (by omega) (by omega) (va_runSN (host := "WhoseDelay") (As := as.map (tv ρ)) (rest := rest.map (tv ρ)) ⟨G.1.1, G.1.2.1, G.1.2.2.1, G.1.2.2.2.1, hts⟩ hm ⟨va_cnB n hts (good_gw hk) rfl rfl rfl (G.1.2.2.2.2.2.1 _ hl.1) (hts _ hk.2.2.1) hk.2.2.2.1 (call_room G hk hdd), hts _ hl.2, trivial⟩ ⟨blind_BM _ _ _ _ _ _ _, fun U hU hW => ⟨rfl, call_pre G Y U hU hW⟩⟩ rfl (by rw [List.length_map]; exact hn) L.1.2.1 rfl h8' hd ⟨by omega, by omega⟩) (fun M' v q => q)
theorem wq_callI {idx n a : Nat} {as : List Mv} {lo' : List Lv} (hd : decode k.2.1 pc = .ok (.invokespecial idx, 3)) (hk : mOK k' n) (hl : lkI k.1.cls idx k' ∨ lkIN k.1.cls idx k') (hn : as.length = n) (hlo : spr (vR a :: as) ++ List.replicate (k'.2.2.1 - (spr (vR a :: as)).length) none = lo') (hle : ((spr (vR a :: as)).length).ble k'.2.2.1 = true) (hst : st = as.reverse ++ vR a :: rest) (h8 : ((rest.map catM).sum).ble 8 = true) (hdd : d'.blt d = true)
    (h : Wq d' cb' sb' k' 0 lo' [] M (fun M' v => Wq d cb sb k (pc + 3) lo (v.toList ++ rest) M' Q)) : Wq d (cb' + cb) (sb' + sb) k pc lo st M Q := by
  intro l p e R s m args below meth c A D cy X QQ ρ0 n0 mc ms G H locs cells slots ρ ls Y hc hs L
  subst hst
  have hrest : ∀ v ∈ rest, okv (nx M) v := fun v hv => L.2.2 v (List.mem_append_right _ (List.mem_cons_of_mem _ hv))
  have hasok : ∀ v ∈ vR a :: as, okv (nx M) v := by
    intro v hv
    rcases List.mem_cons.mp hv with rfl | q
    · exact L.2.2 _ (List.mem_append_right _ List.mem_cons_self)
    · exact L.2.2 v (List.mem_append_left _ (List.mem_reverse.mpr q))
  have hm := met_of (D := D) (cy := cy) (X := X) (ρ := ρ) l H.size hk hlo (Nat.le_of_ble_eq_true hle) Y.2.2.2.1 hasok Y.2.2.2.2.1 Y.2.1 h
  have hts := G.1.2.2.2.2.1
  have hR := G.2.2.2.2.1
  have hfr : (F0 m pc ls ((as.reverse ++ vR a :: rest).map (tv ρ))) = F0 m pc ls ((as.map (tv ρ)).reverse ++ .ref (ρ a) :: rest.map (tv ρ)) := by
    rw [List.map_append, List.map_reverse, List.map_cons]; rfl
  rw [hfr]
  have h8' : 2 * 0 + ((rest.map (tv ρ)).map fun v => v.category).sum ≤ 8 := by
    rw [sum_tv]
    have := Nat.le_of_ble_eq_true h8
    omega
  rcases hl with hl | hl
  · have hws : wsM k' = Cond.code k'.1 k'.2.1 k'.2.2.1 none :: gw := by unfold wsM; rw [hl.2.2.2]
    exact call_go G Y (L.to hrest) hc hs (va_runI (As := as.map (tv ρ)) (rest := rest.map (tv ρ)) ⟨G.1.1, G.1.2.1, G.1.2.2.1, G.1.2.2.2.1, hts⟩ hm (cwI n hts (good_gw hk) hws rfl rfl (hts _ hk.2.2.1) (hts _ hl.1) (hts _ hl.2.1) hl.2.2.1 hk.2.2.2.1 (call_room G hk hdd)) ⟨blind_BM _ _ _ _ _ _ _, fun U hU hW => ⟨rfl, call_pre G Y U hU hW⟩⟩ rfl (by rw [List.length_map]; exact hn) L.1.2.1 rfl h8' hd ⟨by omega, by omega⟩) (fun M' v q => q)
  · have hws : wsM k' = Cond.code k'.1 k'.2.1 k'.2.2.1 none :: gw := by unfold wsM; rw [hl.2.2.2]
    exact call_go G Y (L.to hrest) hc hs (va_runIN (host := "WhoseDelay") (As := as.map (tv ρ)) (rest := rest.map (tv ρ)) ⟨G.1.1, G.1.2.1, G.1.2.2.1, G.1.2.2.2.1, hts⟩ hm ⟨va_cnB n hts (good_gw hk) hws rfl rfl (G.1.2.2.2.2.2.1 _ hl.1) (hts _ hk.2.2.1) hk.2.2.2.1 (call_room G hk hdd), hl.2.2.1, hts _ hl.2.1⟩ ⟨blind_BM _ _ _ _ _ _ _, fun U hU hW => ⟨rfl, call_pre G Y U hU hW⟩⟩ rfl (by rw [List.length_map]; exact hn) L.1.2.1 rfl h8' hd ⟨by omega, by omega⟩) (fun M' v q => q)
end CALL
