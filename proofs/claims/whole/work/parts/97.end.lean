/-! THE CLAIM OUT OF ONE WALK OF THE LAW'S BODY. Your part is whole_start (and what it stands on); all else here is the same for every law, but numbers. -/
def R_law : String := "WhoseDelayLaw"
def lw_P (b : Addr) (xs : List Int32) (args : Array Value) (s : State) : Prop := args = #[.ref b] ∧ s.IntsAt b xs ∧ xs.length ≤ 384 ∧ (Jvm.Cond.and given_1 narrow_1).before args s = true
def lw_Q (_ : Array Value) (s : State) (o : Outcome) (t : State) : Prop := o = .returned (some (.int 1)) ∧ Framed s o t [] 600000 7302250
def lw_Z (below : List Frame) (a : Array Value) (s : State) : State → Prop := fun t => ∃ o, t.status = .running ∧ Ended t below o ∧ lw_Q a s o t
/-- the law's own end, with 1 on the stack, nothing written that was there before, its room as the claim has it -/
theorem lw_ret {p : Program} {l : Launch} {e : Env} {s : State} {m : MethodId} {below : List Frame} {meth : Method} {c : Code} {b : Nat} (hx : p.tables.exec = Jvm.exec) (hb : c.code = code) (hr : meth.sig.returnType = ret) (hlocks : meth.locks = false) {pc : Nat} {H : Heap} {ls : Array Slot} (hdg : decode code pc = .ok (.ireturn, 1)) : W p l e room_1 s m #[Value.ref b] below meth c H [] 600000 7302250 (lw_Z below #[Value.ref b] s) (F0 m pc ls [.int 1]) := by
  intro T hT X
  obtain ⟨fs, hret, hrun, hended, hW, hframe⟩ := X.leave (v := some (.int 1)) (hlocks := hlocks) (fun h => by rw [hr] at h; cases h)
  have hmeth' : T.vm.method? m = some meth := X.method'
  refine ⟨T.setFrames fs, ?_, .returned (some (.int 1)), hrun, hended, rfl, ⟨_, rfl⟩, hW, hframe⟩
  jvm_step X.here [X.here.top, hx, hb, hdg, hmeth', hr, ret, narrow_b1]
  (try refine ⟨rfl, ?_⟩); (try refine ⟨rfl, ?_⟩)
  first | (intro acts; rw [hret _ acts rfl rfl rfl]) | rw [hret _ _ rfl rfl rfl]
  exact Steps.refl _
/-- what holds at the law's entry: the machine, the code, the tables' words (any of lw_tbl by 'hts w (by decide +kernel)'), the script of L ints xs at the cell b, what the Statement gives of the start (any of its parts by flat_of_before) -/
def lw_At (p : Program) (s : State) (m : MethodId) (meth : Method) (c : Code) (b L : Nat) (xs : Nat → Int32) : Prop :=
  p.tables.exec = Jvm.exec ∧ c.code = code ∧ meth.sig.returnType = ret ∧ c.maxLocals = 4 ∧ s.vm.findClass R_law = some m.cls ∧ (∀ w ∈ lw_tbl, w.before #[Value.ref b] s = true) ∧ va_X b L xs s s.heap ∧ b < s.heap.size ∧ meth.locks = false ∧ (Jvm.Cond.and given_1 narrow_1).before #[Value.ref b] s = true
def tA (i : Int) : Int := if i = 0 then -1 else if i = 3 ∨ i = 5 then 2 else 0
def tB (i : Int) : Int := if i < 0 then 0 else ([10, 11, 12, 13, 0, 20, 0, 0, 30, 0, 0, 31, 41, 0, 40, 0, 0, 0, 0, 50, 0, 61, 60, 0] : List Int).getD i.toNat 0
def lw_X (L : Nat) (xs : Nat → Int32) (a : Nat) (i : Int) : Int := if a = 1000 then (if i < 0 then (L : Int) else (xs i.toNat).toInt) else if a = 1001 then tA i else if a = 1002 then tB i else 0
def lw_M (L : Nat) (xs : Nat → Int32) : Mm := (0, lw_X L xs, fun _ _ => 0, fun _ _ => none)
theorem tB_in (i : Int) : 0 ≤ tB i ∧ tB i ≤ 61 := by
  unfold tB
  split
  · decide
  · generalize i.toNat = n
    rcases Nat.lt_or_ge n 24 with h | h
    · exact (show ∀ n : Nat, n < 24 → 0 ≤ ([10, 11, 12, 13, 0, 20, 0, 0, 30, 0, 0, 31, 41, 0, 40, 0, 0, 0, 0, 50, 0, 61, 60, 0] : List Int).getD n 0 ∧ ([10, 11, 12, 13, 0, 20, 0, 0, 30, 0, 0, 31, 41, 0, 40, 0, 0, 0, 0, 50, 0, 61, 60, 0] : List Int).getD n 0 ≤ 61 by decide +kernel) n h
    · rw [List.getD_eq_getElem?_getD, List.getElem?_eq_none (by exact h)]
      decide
theorem tA_in (i : Int) : -1 ≤ tA i ∧ tA i ≤ 2 := by
  unfold tA
  split
  · decide
  · split <;> decide
theorem lw_X_in {L : Nat} {xs : Nat → Int32} (hL : L ≤ 384) (a : Nat) (i : Int) : inR (lw_X L xs a i) := by
  unfold lw_X inR
  split
  · split
    · constructor <;> omega
    · exact ⟨Int32.le_toInt _, Int32.toInt_lt _⟩
  · split
    · have := tA_in i
      constructor <;> omega
    · split
      · have := tB_in i
        constructor <;> omega
      · decide
theorem lw_okM {L : Nat} {xs : Nat → Int32} (hL : L ≤ 384) : okM (lw_M L xs) := by
  refine ⟨Nat.zero_le _, fun a i => lw_X_in hL a i, fun a i => ⟨(by show (-9223372036854775808 : Int) ≤ 0; decide), (by show (0 : Int) < 9223372036854775808; decide)⟩, fun a i b h => (by cases h), fun a _ h i => ⟨?_, rfl, rfl⟩, fun a i h => ?_⟩
  · show lw_X L xs a i = 0
    unfold lw_X
    rw [if_neg (by omega), if_neg (by omega), if_neg (by omega)]
  · show -128 ≤ lw_X L xs a i ∧ lw_X L xs a i < 128
    have h1 : a ≠ 1000 := fun e => by subst e; exact absurd h (by decide)
    have h2 : a ≠ 1001 := fun e => by subst e; exact absurd h (by decide)
    have h3 : a ≠ 1002 := fun e => by subst e; exact absurd h (by decide)
    unfold lw_X
    rw [if_neg h1, if_neg h2, if_neg h3]
    decide
def lw_am (c0 c1 c2 c3 : ClassId) (k : Nat) : ClassId := if k = 0 then c0 else if k = 1 then c1 else if k = 2 then c2 else c3
def lw_wi (k : Nat) : Int32 → Cond := fun z => Cond.eq (.elem (.static "WhoseDelay" "ABOVE" "[I") (.int (Int32.ofNat k))) (.int z)
def lw_wj (k : Nat) : Int32 → Cond := fun z => Cond.eq (.elem (.static "WhoseDelay" "BODIES" "[I") (.int (Int32.ofNat k))) (.int z)
theorem lw_ABOVE {s : State} {b : Nat} (hgv : (Jvm.Cond.and given_1 narrow_1).before #[Value.ref b] s = true) (hts : ∀ w ∈ lw_tbl, w.before #[Value.ref b] s = true) : ∃ q : Nat, va_Z "WhoseDelay" "ABOVE" "[I" (.ref q) (fun q : Nat => s.heap.size ≤ q) s s.heap ∧ va_T .int q 6 (fun j => .int (Int32.ofInt (tA j))) (fun q : Nat => s.heap.size ≤ q) s s.heap := by
  have hs := flat_of_before _ hgv
  have hA : ∀ a : Nat, a < s.heap.size → ¬ (fun q : Nat => s.heap.size ≤ q) a := fun a h => Nat.not_le.mpr h
  have hl : (Cond.eq (.length (.static "WhoseDelay" "ABOVE" "[I")) (.int 6)).before #[Value.ref b] s = true := hs _ (by decide +kernel)
  have he : ∀ j : Nat, j < 6 → (Term.elem (.static "WhoseDelay" "ABOVE" "[I") (.int (Int32.ofNat j))).eval #[Value.ref b] s none [] s = some (.int (Int32.ofInt (tA j))) := by
    intro j hj
    match j, hj with
    | 0, _ => exact va_eqt (z := -1) (hs (lw_wi 0 (-1)) (by decide +kernel))
    | 1, _ => exact va_eqt (z := 0) (hs (lw_wi 1 (0)) (by decide +kernel))
    | 2, _ => exact va_eqt (z := 0) (hs (lw_wi 2 (0)) (by decide +kernel))
    | 3, _ => exact va_eqt (z := 2) (hs (lw_wi 3 (2)) (by decide +kernel))
    | 4, _ => exact va_eqt (z := 0) (hs (lw_wi 4 (0)) (by decide +kernel))
    | 5, _ => exact va_eqt (z := 2) (hs (lw_wi 5 (2)) (by decide +kernel))
    | j + 6, hj => exact absurd hj (by omega)
  obtain ⟨q, hq, hT⟩ := va_Tof (tm := .static "WhoseDelay" "ABOVE" "[I") (ty := .int) (N := 6) (f := fun j => .int (Int32.ofInt (tA j))) (A := fun q : Nat => s.heap.size ≤ q) (by decide) (hs _ (by decide +kernel)) (va_eqt hl) he hA
  exact ⟨q, va_Zref (hts _ (by decide +kernel)) (hts _ (by decide +kernel)) hq hA, hT⟩
theorem lw_BODIES {s : State} {b : Nat} (hgv : (Jvm.Cond.and given_1 narrow_1).before #[Value.ref b] s = true) (hts : ∀ w ∈ lw_tbl, w.before #[Value.ref b] s = true) : ∃ q : Nat, va_Z "WhoseDelay" "BODIES" "[I" (.ref q) (fun q : Nat => s.heap.size ≤ q) s s.heap ∧ va_T .int q 24 (fun j => .int (Int32.ofInt (tB j))) (fun q : Nat => s.heap.size ≤ q) s s.heap := by
  have hs := flat_of_before _ hgv
  have hA : ∀ a : Nat, a < s.heap.size → ¬ (fun q : Nat => s.heap.size ≤ q) a := fun a h => Nat.not_le.mpr h
  have hl : (Cond.eq (.length (.static "WhoseDelay" "BODIES" "[I")) (.int 24)).before #[Value.ref b] s = true := hs _ (by decide +kernel)
  have he : ∀ j : Nat, j < 24 → (Term.elem (.static "WhoseDelay" "BODIES" "[I") (.int (Int32.ofNat j))).eval #[Value.ref b] s none [] s = some (.int (Int32.ofInt (tB j))) := by
    intro j hj
    match j, hj with
    | 0, _ => exact va_eqt (z := 10) (hs (lw_wj 0 (10)) (by decide +kernel))
    | 1, _ => exact va_eqt (z := 11) (hs (lw_wj 1 (11)) (by decide +kernel))
    | 2, _ => exact va_eqt (z := 12) (hs (lw_wj 2 (12)) (by decide +kernel))
    | 3, _ => exact va_eqt (z := 13) (hs (lw_wj 3 (13)) (by decide +kernel))
    | 4, _ => exact va_eqt (z := 0) (hs (lw_wj 4 (0)) (by decide +kernel))
    | 5, _ => exact va_eqt (z := 20) (hs (lw_wj 5 (20)) (by decide +kernel))
    | 6, _ => exact va_eqt (z := 0) (hs (lw_wj 6 (0)) (by decide +kernel))
    | 7, _ => exact va_eqt (z := 0) (hs (lw_wj 7 (0)) (by decide +kernel))
    | 8, _ => exact va_eqt (z := 30) (hs (lw_wj 8 (30)) (by decide +kernel))
    | 9, _ => exact va_eqt (z := 0) (hs (lw_wj 9 (0)) (by decide +kernel))
    | 10, _ => exact va_eqt (z := 0) (hs (lw_wj 10 (0)) (by decide +kernel))
    | 11, _ => exact va_eqt (z := 31) (hs (lw_wj 11 (31)) (by decide +kernel))
    | 12, _ => exact va_eqt (z := 41) (hs (lw_wj 12 (41)) (by decide +kernel))
    | 13, _ => exact va_eqt (z := 0) (hs (lw_wj 13 (0)) (by decide +kernel))
    | 14, _ => exact va_eqt (z := 40) (hs (lw_wj 14 (40)) (by decide +kernel))
    | 15, _ => exact va_eqt (z := 0) (hs (lw_wj 15 (0)) (by decide +kernel))
    | 16, _ => exact va_eqt (z := 0) (hs (lw_wj 16 (0)) (by decide +kernel))
    | 17, _ => exact va_eqt (z := 0) (hs (lw_wj 17 (0)) (by decide +kernel))
    | 18, _ => exact va_eqt (z := 0) (hs (lw_wj 18 (0)) (by decide +kernel))
    | 19, _ => exact va_eqt (z := 50) (hs (lw_wj 19 (50)) (by decide +kernel))
    | 20, _ => exact va_eqt (z := 0) (hs (lw_wj 20 (0)) (by decide +kernel))
    | 21, _ => exact va_eqt (z := 61) (hs (lw_wj 21 (61)) (by decide +kernel))
    | 22, _ => exact va_eqt (z := 60) (hs (lw_wj 22 (60)) (by decide +kernel))
    | 23, _ => exact va_eqt (z := 0) (hs (lw_wj 23 (0)) (by decide +kernel))
    | j + 24, hj => exact absurd hj (by omega)
  obtain ⟨q, hq, hT⟩ := va_Tof (tm := .static "WhoseDelay" "BODIES" "[I") (ty := .int) (N := 24) (f := fun j => .int (Int32.ofInt (tB j))) (A := fun q : Nat => s.heap.size ≤ q) (by decide) (hs _ (by decide +kernel)) (va_eqt hl) he hA
  exact ⟨q, va_Zref (hts _ (by decide +kernel)) (hts _ (by decide +kernel)) hq hA, hT⟩
theorem lw_known {s : State} {b : Nat} (hts : ∀ w ∈ lw_tbl, w.before #[Value.ref b] s = true) : ∃ D : va_G, ∀ (k : Nat) (q : vw_C), vwCl[k]? = some q → u_Kn s q.1 q.2.1 q.2.2 (D.1 k) (D.2 k) := by
  obtain ⟨c0, i0, h0⟩ := u_known (C := RX0) (T := TX0) (N := 7) (n := 7) hts (fun w h => gw_tbl (inX0 w h)) (hts (.instantiable RX0 7) (by decide +kernel))
  obtain ⟨c1, i1, h1⟩ := u_known (C := RX1) (T := TX1) (N := 5) (n := 5) hts (fun w h => gw_tbl (inX1 w h)) (hts (.instantiable RX1 5) (by decide +kernel))
  obtain ⟨c2, i2, h2⟩ := u_known (C := RX2) (T := TX2) (N := 8) (n := 8) hts (fun w h => gw_tbl (inX2 w h)) (hts (.instantiable RX2 8) (by decide +kernel))
  obtain ⟨c3, i3, h3⟩ := u_known (C := RX3) (T := TX3) (N := 4) (n := 4) hts (fun w h => gw_tbl (inX3 w h)) (hts (.instantiable RX3 4) (by decide +kernel))
  obtain ⟨c4, i4, h4⟩ := u_known (C := RX4) (T := TX4) (N := 3) (n := 3) hts (fun w h => gw_tbl (inX4 w h)) (hts (.instantiable RX4 3) (by decide +kernel))
  obtain ⟨c5, i5, h5⟩ := u_known (C := RX5) (T := TX5) (N := 7) (n := 7) hts (fun w h => gw_tbl (inX5 w h)) (hts (.instantiable RX5 7) (by decide +kernel))
  obtain ⟨c6, i6, h6⟩ := u_known (C := RX6) (T := TX6) (N := 3) (n := 3) hts (fun w h => gw_tbl (inX6 w h)) (hts (.instantiable RX6 3) (by decide +kernel))
  obtain ⟨c7, i7, h7⟩ := u_known (C := RX7) (T := TX7) (N := 6) (n := 6) hts (fun w h => gw_tbl (inX7 w h)) (hts (.instantiable RX7 6) (by decide +kernel))
  obtain ⟨c8, i8, h8⟩ := u_known (C := RX8) (T := TX8) (N := 5) (n := 5) hts (fun w h => gw_tbl (inX8 w h)) (hts (.instantiable RX8 5) (by decide +kernel))
  obtain ⟨c9, i9, h9⟩ := u_known (C := RX9) (T := TX9) (N := 8) (n := 8) hts (fun w h => gw_tbl (inX9 w h)) (hts (.instantiable RX9 8) (by decide +kernel))
  obtain ⟨c10, i10, h10⟩ := u_known (C := RX10) (T := TX10) (N := 10) (n := 10) hts (fun w h => gw_tbl (inX10 w h)) (hts (.instantiable RX10 10) (by decide +kernel))
  obtain ⟨c11, i11, h11⟩ := u_known (C := RX11) (T := TX11) (N := 26) (n := 26) hts (fun w h => gw_tbl (inX11 w h)) (hts (.instantiable RX11 26) (by decide +kernel))
  refine ⟨(fun k => if k = 0 then c0 else if k = 1 then c1 else if k = 2 then c2 else if k = 3 then c3 else if k = 4 then c4 else if k = 5 then c5 else if k = 6 then c6 else if k = 7 then c7 else if k = 8 then c8 else if k = 9 then c9 else if k = 10 then c10 else c11, fun k => if k = 0 then i0 else if k = 1 then i1 else if k = 2 then i2 else if k = 3 then i3 else if k = 4 then i4 else if k = 5 then i5 else if k = 6 then i6 else if k = 7 then i7 else if k = 8 then i8 else if k = 9 then i9 else if k = 10 then i10 else i11), ?_⟩
  intro k q hq
  match k, hq with
  | 0, hq => cases hq; exact h0
  | 1, hq => cases hq; exact h1
  | 2, hq => cases hq; exact h2
  | 3, hq => cases hq; exact h3
  | 4, hq => cases hq; exact h4
  | 5, hq => cases hq; exact h5
  | 6, hq => cases hq; exact h6
  | 7, hq => cases hq; exact h7
  | 8, hq => cases hq; exact h8
  | 9, hq => cases hq; exact h9
  | 10, hq => cases hq; exact h10
  | 11, hq => cases hq; exact h11
  | k + 12, hq => exact absurd hq (by simp [vwCl])
theorem lw_arr {s : State} {args : Array Value} {ty : FieldType} (hto : ∀ C, ty ≠ .object C) (h : (Cond.arrayClass ty).before args s = true) : ∃ cA : ClassId, ArrOfT s cA ty ∧ va_RA s cA ty := by
  obtain ⟨cA, kA, comp, h1, h2, h3⟩ := Cond.arrayClass_spec h
  refine ⟨cA, fun n z => ⟨fun k h => (by cases h), kA, h2, comp, h3⟩, ?_⟩
  cases ty with
  | object C => exact absurd rfl (hto C)
  | _ => exact h1
theorem lw_aro {s : State} {args : Array Value} {C : String} (h : (Cond.arrayOver (.object C)).before args s = true) : ∃ cA : ClassId, ArrOfT s cA (.object C) ∧ va_RA s cA (.object C) := by
  obtain ⟨comp, cA, kA, h1, h2, h3, h4, h5⟩ := Cond.arrayOver_spec h
  exact ⟨cA, fun n z => ⟨fun k h => (by cases h), kA, h3, comp, h4⟩, kA, comp, h3, h4, h1, h5⟩
theorem lw_nest : ∀ w ∈ nw, w.onTables = true := by
  intro w hw
  have h := (List.mem_filter.mp hw).2
  cases w <;> first | rfl | (exact absurd h (by simp [isNest]))
set_option maxHeartbeats 4000000 in
/-- from the entry, for every script of at most 384 ints, the law comes to its end with true -/
theorem whole_start {p : Program} {e : Env} {s : State} {m : MethodId} {below : List Frame} {meth : Method} {c : Code} (l : Launch) {b L : Nat} {xs : Nat → Int32} (hL : L ≤ 384) (hnm : meth.name = "law") (C0 : lw_At p s m meth c b L xs) : W p l e room_1 s m #[Value.ref b] below meth c s.heap [] 0 0 (lw_Z below #[Value.ref b] s) (entryFrame m ([Value.ref b] : List Value).toArray 4) := by
  obtain ⟨hx, hb, hr, hml, hown, hts, hX, hbl, hlocks, hgv⟩ := C0
  obtain ⟨D, hD⟩ := lw_known hts
  obtain ⟨c0, hc0⟩ := lw_arr (ty := .int) (fun C h => by cases h) (hts _ (by decide +kernel))
  obtain ⟨c1, hc1⟩ := lw_arr (ty := .long) (fun C h => by cases h) (hts _ (by decide +kernel))
  obtain ⟨c2, hc2⟩ := lw_arr (ty := .byte) (fun C h => by cases h) (hts _ (by decide +kernel))
  have hao : (Cond.arrayOver (.object "WhoseDelay$Sheet")).before #[Value.ref b] s = true := hts _ (by decide +kernel)
  obtain ⟨c3, hc3⟩ := lw_aro hao
  obtain ⟨qa, hqa⟩ := lw_ABOVE hgv hts
  obtain ⟨qb, hqb⟩ := lw_BODIES hgv hts
  have hK : va_K D vwCl (tyL (lw_am c0 c1 c2 c3)) s := by
    refine ⟨hD, fun k q hk => ?_⟩
    match k, hk with
    | 0, hk => cases hk; exact hc0
    | 1, hk => cases hk; exact hc1
    | 2, hk => cases hk; exact hc2
    | 3, hk => cases hk; exact hc3
    | k + 4, hk => exact absurd hk (by simp [tyL])
  have E := law_start (M := lw_M L xs) rfl (fun a i h => ((lw_okM hL).2.2.2.2.1 a (Nat.zero_le _) h i).1) (fun _ _ _ => rfl) ⟨fun i _ _ => rfl, rfl, rfl, rfl, rfl, rfl, rfl, rfl, rfl, rfl, rfl, rfl, rfl, rfl, rfl, rfl, rfl, rfl, rfl, rfl, rfl, rfl, rfl, rfl, rfl⟩ (by show (L : Int) ≤ 384; omega) (by show (0 : Int) ≤ (L : Int); omega)
  have hF : exO (fun a => if a = 1001 then qa else if a = 1002 then qb else b) (lw_X L xs) (fun q : Nat => s.heap.size ≤ q) s s.heap := by
    refine ⟨⟨L, rfl, hL, ?_, hbl, Nat.not_le.mpr hbl⟩, hqa, hqb, va_AO.of hao⟩
    obtain ⟨scr, x1, x2, x3, x4, x5⟩ := hX
    refine ⟨scr, x1, x2, x3, x4, fun j hj => ?_⟩
    rw [x5 j hj]
    show _ = some (Value.int (Int32.ofInt (lw_X L xs 1000 j)))
    have e1 : lw_X L xs 1000 j = (xs j).toInt := by
      unfold lw_X
      rw [if_pos rfl, if_neg (by omega)]
      rfl
    rw [e1, of_t]
  rw [lg_entry_eq]
  refine E l p e room_1 s m #[Value.ref b] below meth c (fun q : Nat => s.heap.size ≤ q) D (lw_am c0 c1 c2 c3) (lw_X L xs) (lw_Z below #[Value.ref b] s) (fun a => if a = 1001 then qa else if a = 1002 then qb else b) 0 99 8937 ⟨⟨hx, hb, hml, hown, fun w h => hts w (gw_tbl h), fun w h => va_Nw.of (lw_nest w h) (hts w (nw_tbl h)), hnm⟩, hK, fun _ h => h, hF, ⟨Nat.le_of_ble_eq_true rfl, Nat.le_of_ble_eq_true rfl, Nat.le_of_ble_eq_true rfl, Nat.le_of_ble_eq_true rfl⟩, ?_⟩ s.heap [] 0 0 (fun a => if a = 1001 then qa else if a = 1002 then qb else b) _ ⟨fun k q h => absurd h (by simp [wd, lw_M, nx]), ⟨fun i j p q h => absurd h (by simp [wd, lw_M, nx]), fun k q h => absurd h (by simp [wd, lw_M, nx])⟩, va_S.rf, lw_okM hL, fun a i _ => rfl, fun _ _ => rfl, Nat.zero_le _⟩ (Nat.le_refl _) (Nat.le_refl _) (Dl_entry (as := [vR 1000]) rfl (by decide) (fun v hv => ?_))
  · intro pc ls H locs cells slots ρ M v hq Y hc hs _ _ hdec
    have hq : v = some (vI 1) := hq
    subst hq
    refine va_forget Y.2.2.1.2.2 (W.widen (k := 600000) (n := 7302250) (by omega) (by omega) ?_)
    exact lw_ret hx hb hr hlocks hdec
  · rcases List.mem_singleton.mp hv with rfl
    exact Or.inr ⟨by decide, by decide⟩
set_option maxHeartbeats 4000000 in
theorem lw_walk (l : Launch) (b : Addr) (xs : List Int32) : MetFree l x (headSpec (Jvm.Cond.code x code maxLocals ret :: tables_1) room_1) (lw_P b xs) (fun _ _ _ _ _ => True) lw_Q := by
  refine MetFree.of_bodyS (code := code) (maxLocals := maxLocals) (ret := ret) (by decide) ?_ ?_
  · intro args s m h hn
    obtain ⟨meth, c, h1, h2, h3, h4, h5, h6, -, -⟩ := Cond.code_spec hn (atoms_spec (ws := Jvm.Cond.code x code maxLocals ret :: tables_1) h _ List.mem_cons_self)
    exact ⟨meth, c, h1, h2, h3, h4, h5, h6⟩
  · intro p e s m args below meth c s₁ B hml0 hP _
    obtain ⟨rfl, hx, hbd, hgv⟩ := hP
    obtain ⟨scr, harrAt, hlist, hof, hsmall⟩ := hx
    obtain ⟨hcb, hkn, -, -⟩ := State.arrayAt?_spec harrAt
    have hown : s.vm.findClass R_law = some m.cls := findClass_of_methodNamed B.named
    have hts0 : ∀ c ∈ (Jvm.Cond.code x code maxLocals ret :: tables_1), c.before #[Value.ref b] s = true := atoms_spec (ws := Jvm.Cond.code x code maxLocals ret :: tables_1) B.pre
    have hts : ∀ w ∈ lw_tbl, w.before #[Value.ref b] s = true := k2_hts_sels lw_privs (fun w hw => hts0 w (List.mem_cons_of_mem _ hw)) lw_privs_ok
    have hml : c.maxLocals = 4 := B.maxLocals_eq (hts0 _ List.mem_cons_self)
    have X₀ : Stand p l e room_1 s m #[Value.ref b] below meth c s₁ [] 0 0 := Stand.of_body B
    have hh0 : s₁.heap = s.heap := by rw [B.state]; rfl
    have hsz : scr.slots.size = xs.length := by rw [← Array.length_toList, hlist, List.length_map]
    have hval : ∀ j : Nat, j < xs.length → scr.slots[j]? = some (.int (xs.getD j 0)) := fun j hj => by
      rw [← Array.getElem?_toList, hlist]
      simp [hj]
    have hbl : b < s.heap.size := (Array.getElem?_eq_some_iff.mp hcb).1
    have hX : va_X b xs.length (fun j => xs.getD j 0) s s.heap := ⟨scr, hcb, hof, hkn, hsz, hval⟩
    have K : W p l e room_1 s m #[Value.ref b] below meth c s₁.heap [] 0 0 (lw_Z below #[Value.ref b] s) (entryFrame m ([Value.ref b] : List Value).toArray 4) := by
      rw [hh0]
      exact whole_start l hbd (name_of_methodNamed B.named B.method).1 ⟨B.exec, B.bytes, B.returns, hml, hown, hts, hX, hbl, B.notSynchronized, hgv⟩
    obtain ⟨t, a1, o, b1, b2, b3⟩ := K s₁ rfl X₀
    exact ⟨t, o, a1, b1, b2, b3⟩
theorem lw_pre_spec {args : Array Value} {s : State} (h : (Jvm.Cond.and given_1 narrow_1).before args s = true) (hr : rest_1_c.before args s = true) : ∃ (b : Addr) (xs : List Int32), lw_P b xs args s := by
  have hs := flat_of_before _ h
  have hq := flat_of_before _ hr
  have hc : (Cond.count 1).before args s = true := hs _ (by decide +kernel)
  have harr : (Cond.arrayOf (.arg 0) .int).before args s = true := hs _ (by decide +kernel)
  have hle : (Cond.le (.length (.arg 0)) (.int 384)).before args s = true := hs _ (by decide +kernel)
  have hlen : (Cond.isInt (.length (.arg 0))).before args s = true := hq _ (by decide +kernel)
  have hall : (Cond.all (.arg 0) (.isInt (.elem (.arg 0) (.index 0)))).before args s = true := hq _ (by decide +kernel)
  obtain ⟨b, xs, hb, hx⟩ := State.ints_of_pre rfl harr hlen hall
  have hsm : xs.length < 2 ^ 31 := hx.choose_spec.2.2.2
  have hev : (Term.length (.arg 0)).eval args s none [] s = some (.int xs.length.toInt32) := hx.length_eval hb
  have hv := Cond.le_ints hev (show (Term.int 384).eval args s none [] s = some (.int 384) from rfl)
  have hd : xs.length.toInt32 ≤ 384 := by
    simpa [Cond.before, Cond.holds, hv] using hle
  have hN : xs.length ≤ 384 := (Int32.ofNat_le_ofNat hsm (by decide)).mp (show Int32.ofNat xs.length ≤ Int32.ofNat 384 from hd)
  exact ⟨b, xs, Cond.one_arg hc (show args[0]? = some (.ref b) from hb), hx, hN, h⟩
theorem lw_comes (l : Launch) : Comes l x (Jvm.Cond.code x code maxLocals ret :: tables_1) room_1 (fun tb e args s => Calls_1 tb e args s ∧ rest_1 tb e args s ∧ Pre_1 tb e args s)
    (fun _ _ args s o t => lw_Q args s o t) := by
  intro p e ha hc hk s m args below hf hfit hheap happ hpre
  obtain ⟨b, xs, hP⟩ := lw_pre_spec hpre.2.2 hpre.2.1
  obtain ⟨k, o, h1, h2, h3, hQ⟩ := lw_walk l b xs p e ha hc hk s m args below hf ((Spec.applies_iff_loose hf).mp happ).1 hP trivial
  exact ⟨k, o, h1, h2, h3, hQ⟩
theorem lw_frame {s t : State} {o : Outcome} {args : Array Value} (h : Framed s o t [] 600000 7302250) :
    Framed s o t (fieldLocs frame_1_writes args s ++ arrayLocs frame_1_arrays args s ++ staticLocs frame_1_statics s) 600000 7302250 := h
theorem lw_limb (L : Cond) (hL : ∀ (args : Array Value) (s t : State), L.after args s (.returned (some (.int 1))) t = true) :
    ArmFor flags0 classFile x code maxLocals ret World_1 tables_1 room_1 Calls_1 rest_1 Pre_1
      (fun tb e a s o t => postC L tb e a s o t ∧ Framed s o t (fieldLocs frame_1_writes a s ++ arrayLocs frame_1_arrays a s ++ staticLocs frame_1_statics s) 600000 7302250) := by
  intro l _ _ _ p e ha hc hk s m args below hf hfit hheap happ hpre
  obtain ⟨k, o, h1, h2, h3, rfl, hF⟩ := lw_comes l p e ha hc hk s m args below hf hfit hheap happ hpre
  exact ⟨k, _, h1, h2, h3, hL args s _, lw_frame hF⟩
theorem i_vc : Claimed_1_1 ∧ Claimed_1_2 := ⟨lw_limb limb_1_1 (fun args s t => by simp [limb_1_1, Cond.after, Cond.holds, Cond.value]), lw_limb limb_1_2 (fun args s t => Cond.after_iff.mpr (by
  first | (rw [show limb_1_2 = Cond.eq .result (.int 1) from rfl, Cond.eq_ints (x := 1) (y := 1) rfl rfl]; simp; done) | (simp [limb_1_2, Cond.value, Term.eval]; done)))⟩
