/-! ===== cells, worlds, the walk ===== -/
def tv (ρ : Nat → Nat) (v : Mv) : Value := match v with
  | .inl x => .int (Int32.ofInt x)
  | .inr (.inl x) => .long (Int64.ofInt x)
  | .inr (.inr none) => .null
  | .inr (.inr (some a)) => .ref (ρ a)
def catM (v : Mv) : Nat := match v with
  | .inr (.inl _) => 2
  | _ => 1
theorem catM_tv (ρ : Nat → Nat) (v : Mv) : (tv ρ v).category = catM v := by
  rcases v with x | x | x
  · rfl
  · rfl
  · cases x <;> rfl
def fkT (t : FieldType) : Nat := match t with
  | .int => 0
  | .boolean => 2
  | .object _ => 1
  | .array _ => 1
  | _ => 9
def fv (ρ : Nat → Nat) (M : Mm) (a : Nat) (t : FieldType) (j : Nat) : Value := if fkT t = 1 then va_rf ((gR M a j).map ρ) else .int (Int32.ofInt (gI M a j))
def enO (ρ : Nat → Nat) (M : Mm) (a ci n : Nat) : List Value := (List.range n).map (fun j => fv ρ M a (tyC ci j) j)
def en (cy : Nat → ClassId) (ρ : Nat → Nat) (M : Mm) (a : Nat) : va_E :=
  if (sh a).1 = 20 then .inl (cy 0, (sh a).2, .inl (fun j => Int32.ofInt (gI M a j)))
  else if (sh a).1 = 21 then .inl (cy 1, (sh a).2, .inr (.inl (fun j => Int64.ofInt (gL M a j))))
  else if (sh a).1 = 22 then .inl (cy 2, (sh a).2, .inl (fun j => Int32.ofInt (gI M a j)))
  else if (sh a).1 = 23 then .inl (cy 3, (sh a).2, .inr (.inr (.inr (.inr (fun j => (gR M a j).map ρ)))))
  else .inr ((sh a).1, enO ρ M a (sh a).1 (sh a).2)
def wd (cy : Nat → ClassId) (ρ : Nat → Nat) (M : Mm) : va_W := (List.range (nx M)).map (fun a => (ρ a, en cy ρ M a))
def tyL (cy : Nat → ClassId) : List (ClassId × FieldType) := [(cy 0, .int), (cy 1, .long), (cy 2, .byte), (cy 3, .object "WhoseDelay$Sheet")]
def okv (n : Nat) (v : Mv) : Prop := match v with
  | .inl x => inR x
  | .inr (.inl x) => inL x
  | .inr (.inr none) => True
  | .inr (.inr (some a)) => a < n ∨ (1000 ≤ a ∧ a < 1003)
def okM (M : Mm) : Prop := nx M ≤ 99 ∧ (∀ a i, inR (gI M a i)) ∧ (∀ a i, inL (gL M a i)) ∧ (∀ a i b, gR M a i = some b → b < nx M) ∧ (∀ a, nx M ≤ a → a < 1000 → ∀ i, gI M a i = 0 ∧ gL M a i = 0 ∧ gR M a i = none) ∧ (∀ a i, (sh a).1 = 22 → -128 ≤ gI M a i ∧ gI M a i < 128)
abbrev Md : Type := MethodName × ByteArray × Nat × Option FieldType
def exO (ρ : Nat → Nat) (X : Nat → Int → Int) (A : Nat → Prop) (s : State) (H : Heap) : Prop :=
  (∃ L : Nat, X 1000 (-1) = L ∧ L ≤ 384 ∧ va_X (ρ 1000) L (fun j => Int32.ofInt (X 1000 j)) s H ∧ ρ 1000 < H.size ∧ ¬ A (ρ 1000)) ∧
  (va_Z "WhoseDelay" "ABOVE" "[I" (.ref (ρ 1001)) A s H ∧ va_T .int (ρ 1001) 6 (fun j => .int (Int32.ofInt (X 1001 j))) A s H) ∧
  (va_Z "WhoseDelay" "BODIES" "[I" (.ref (ρ 1002)) A s H ∧ va_T .int (ρ 1002) 24 (fun j => .int (Int32.ofInt (X 1002 j))) A s H) ∧ va_AO "WhoseDelay$Sheet" s
/-- the heap's part of a state -/
def Dh (s : State) (A : Nat → Prop) (D : va_G) (cy : Nat → ClassId) (X : Nat → Int → Int) (ρ0 : Nat → Nat) (n0 : Nat) (H : Heap) (locs : List Loc) (ρ : Nat → Nat) (M : Mm) : Prop :=
  va_P D vwCl (wd cy ρ M) H ∧ va_D A (wd cy ρ M) ∧ va_S A s.heap H locs ∧ okM M ∧ (∀ a i, 1000 ≤ a → gI M a i = X a i) ∧ (∀ a, a < n0 ∨ 1000 ≤ a → ρ a = ρ0 a) ∧ n0 ≤ nx M
/-- locals and stack -/
def Dl (k : Md) (ρ : Nat → Nat) (n : Nat) (ls : Array Slot) (lo : List Lv) (st : List Mv) : Prop :=
  (lo.length = k.2.2.1 ∧ ls.size = k.2.2.1 ∧ lv_wf ls ∧ (∀ (i : Nat) (v : Mv), lo[i]? = some (some v) → ls[i]? = some (.val (tv ρ v)))) ∧ (∀ (i : Nat) (v : Mv), lo[i]? = some (some v) → okv n v) ∧ ∀ v ∈ st, okv n v
def retI (v : Option Mv) : Instr := if v.isSome then .ireturn else .return_
def retOK (k : Md) (v : Option Mv) : Prop := match k.2.2.2, v with
  | some .int, some (.inl _) => True
  | some .boolean, some (.inl x) => x = 0 ∨ x = 1
  | none, none => True
  | _, _ => False
/-- what an activation of k stands in -/
def Gd (d : Nat) (k : Md) (Q : Mm → Option Mv → Prop) (l : Launch) (p : Program) (e : Env) (R : Room) (s : State) (m : MethodId) (args : Array Value) (below : List Frame) (meth : Method) (c : Code) (A : Nat → Prop) (D : va_G) (cy : Nat → ClassId) (X : Nat → Int → Int) (QQ : State → Prop) (ρ0 : Nat → Nat) (n0 mc ms : Nat) : Prop :=
  (p.tables.exec = Jvm.exec ∧ c.code = k.2.1 ∧ c.maxLocals = k.2.2.1 ∧ s.vm.findClass k.1.cls = some m.cls ∧ (∀ w ∈ gw, w.before args s = true) ∧ (∀ w ∈ nw, va_Nw w s) ∧ meth.name = k.1.name) ∧
  va_K D vwCl (tyL cy) s ∧ (∀ q : Nat, s.heap.size ≤ q → A q) ∧ exO ρ0 X A s s.heap ∧ (d ≤ R.frames ∧ 60 * d ≤ R.locals ∧ mc ≤ R.cells ∧ ms ≤ R.slots) ∧
  (∀ (pc : Nat) (ls : Array Slot) (H : Heap) (locs : List Loc) (cells slots : Nat) (ρ : Nat → Nat) (M : Mm) (v : Option Mv), Q M v → Dh s A D cy X ρ0 n0 H locs ρ M → cells ≤ mc → slots ≤ ms → retOK k v → (∀ w, v = some w → okv (nx M) w) → decode k.2.1 pc = .ok (retI v, 1) → W p l e R s m args below meth c H locs cells slots QQ (F0 m pc ls (v.toList.map (tv ρ))))
/-- the walk: from here the method comes to its end with Q; d frames, cb cells and sb slots may be used -/
def Wq (d cb sb : Nat) (k : Md) (pc : Nat) (lo : List Lv) (st : List Mv) (M : Mm) (Q : Mm → Option Mv → Prop) : Prop :=
  ∀ (l : Launch) (p : Program) (e : Env) (R : Room) (s : State) (m : MethodId) (args : Array Value) (below : List Frame) (meth : Method) (c : Code) (A : Nat → Prop) (D : va_G) (cy : Nat → ClassId) (X : Nat → Int → Int) (QQ : State → Prop) (ρ0 : Nat → Nat) (n0 mc ms : Nat),
    Gd d k Q l p e R s m args below meth c A D cy X QQ ρ0 n0 mc ms → ∀ (H : Heap) (locs : List Loc) (cells slots : Nat) (ρ : Nat → Nat) (ls : Array Slot),
    Dh s A D cy X ρ0 n0 H locs ρ M → cells + cb ≤ mc → slots + sb ≤ ms → Dl k ρ (nx M) ls lo st →
    W p l e R s m args below meth c H locs cells slots QQ (F0 m pc ls (st.map (tv ρ)))
/-! worlds: reading and writing them -/
theorem wd_at {cy : Nat → ClassId} {ρ : Nat → Nat} {M : Mm} {a : Nat} (h : a < nx M) : (wd cy ρ M)[a]? = some (ρ a, en cy ρ M a) := by
  simp [wd, h]
theorem wd_set {cy : Nat → ClassId} {ρ : Nat → Nat} {M M' : Mm} {a : Nat} {x : Nat × va_E} (hn : nx M' = nx M) (ha : x = (ρ a, en cy ρ M' a)) (ho : ∀ b, b ≠ a → en cy ρ M' b = en cy ρ M b) : (wd cy ρ M).set a x = wd cy ρ M' := by
  apply List.ext_getElem?
  intro j
  rw [List.getElem?_set]
  simp only [wd, List.length_map, List.length_range, List.getElem?_map, hn]
  by_cases h : a = j
  · subst h
    by_cases h2 : a < nx M
    · simp [h2, ha]
    · simp [h2]
  · by_cases h2 : j < nx M
    · simp [h, h2, ho j (Ne.symm h)]
    · simp [h, h2]
theorem wd_push {cy : Nat → ClassId} {ρ ρ' : Nat → Nat} {M M' : Mm} {q : Nat} {x : va_E} (hn : nx M' = nx M + 1) (hq : ρ' (nx M) = q) (hx : en cy ρ' M' (nx M) = x) (ho : ∀ b, b < nx M → ρ' b = ρ b ∧ en cy ρ' M' b = en cy ρ M b) : wd cy ρ M ++ [(q, x)] = wd cy ρ' M' := by
  unfold wd
  rw [hn, List.range_succ, List.map_append, List.map_singleton, hq, hx]
  congr 1
  apply List.map_congr_left
  intro b hb
  have := ho b (List.mem_range.mp hb)
  rw [this.1, this.2]
theorem en_i {cy : Nat → ClassId} {ρ : Nat → Nat} {M : Mm} {a n : Nat} (h : sh a = (20, n)) : en cy ρ M a = .inl (cy 0, n, .inl (fun j => Int32.ofInt (gI M a j))) := by
  unfold en; rw [h]; rfl
theorem en_l {cy : Nat → ClassId} {ρ : Nat → Nat} {M : Mm} {a n : Nat} (h : sh a = (21, n)) : en cy ρ M a = .inl (cy 1, n, .inr (.inl (fun j => Int64.ofInt (gL M a j)))) := by
  unfold en; rw [h]; rfl
theorem en_b {cy : Nat → ClassId} {ρ : Nat → Nat} {M : Mm} {a n : Nat} (h : sh a = (22, n)) : en cy ρ M a = .inl (cy 2, n, .inl (fun j => Int32.ofInt (gI M a j))) := by
  unfold en; rw [h]; rfl
theorem en_q {cy : Nat → ClassId} {ρ : Nat → Nat} {M : Mm} {a n : Nat} (h : sh a = (23, n)) : en cy ρ M a = .inl (cy 3, n, .inr (.inr (.inr (.inr (fun j => (gR M a j).map ρ))))) := by
  unfold en; rw [h]; rfl
theorem en_o {cy : Nat → ClassId} {ρ : Nat → Nat} {M : Mm} {a ci n : Nat} (h : sh a = (ci, n)) (hc : ci < 20) : en cy ρ M a = .inr (ci, enO ρ M a ci n) := by
  unfold en
  rw [h]
  show (if ci = 20 then _ else if ci = 21 then _ else if ci = 22 then _ else if ci = 23 then _ else _) = _
  rw [if_neg (by omega), if_neg (by omega), if_neg (by omega), if_neg (by omega)]
theorem en_eq {cy : Nat → ClassId} {ρ : Nat → Nat} {M M' : Mm} {b : Nat} (h1 : ∀ i, gI M' b i = gI M b i) (h2 : ∀ i, gL M' b i = gL M b i) (h3 : ∀ i, gR M' b i = gR M b i) : en cy ρ M' b = en cy ρ M b := by
  unfold en enO fv
  simp only [h1, h2, h3]
theorem en_rho {cy : Nat → ClassId} {ρ ρ' : Nat → Nat} {M : Mm} {b : Nat} (h : ∀ i c, gR M b i = some c → ρ' c = ρ c) : en cy ρ' M b = en cy ρ M b := by
  have hm : ∀ i, (gR M b i).map ρ' = (gR M b i).map ρ := by
    intro i
    cases hi : gR M b i with
    | none => rfl
    | some c => simp [h i c hi]
  unfold en enO fv
  simp only [hm]
