/-! ===== the code of a text, worked out, is what reading it gives ===== -/
section EXC
variable (t : Int → Int) (len : Int) (nu : Int → Int)
/-- not behind the end; a fault stays -/
def Gl (len : Int) (s s' : PS) : Prop := (s.1 ≤ len → s'.1 ≤ len) ∧ (s.2.2.1 = true → s'.2.2.1 = true)
theorem Gl.rf (s : PS) : Gl len s s := ⟨id, id⟩
theorem Gl.tr {a b c : PS} (h : Gl len a b) (g : Gl len b c) : Gl len a c := ⟨fun z => g.1 (h.1 z), fun z => g.2 (h.2 z)⟩
theorem Gl.adv {a b : PS} (c : pHere t len a ≠ -1) (h : Gl len (pAdv a) b) : Gl len a b := by
  have hin := pH_in t len c
  exact ⟨fun _ => h.1 (by show a.1 + 1 ≤ len; omega), fun z => by rw [hin.1] at z; exact absurd z (by decide)⟩
theorem Gl.put {a b : PS} (c : Int) (h : Gl len a b) : Gl len a (pPut c b) := by
  unfold pPut
  split
  · exact h
  · exact h
theorem Gl.flt {a b : PS} (h : Gl len a b) : Gl len a (pFlt b) := ⟨h.1, fun _ => rfl⟩
theorem Gl.op {a b : PS} (d : Int) (h : Gl len a b) : Gl len a (pOp d b) := h
theorem Gl.po {a b : PS} (d : Int) (h : Gl len (pOp d a) b) : Gl len a b := h
theorem Gl.to {a b : PS} (c : pHere t len b ≠ -1) (h : Gl len a b) : Gl len a (pAdv b) := by
  have hin := pH_in t len c
  exact ⟨fun _ => by show b.1 + 1 ≤ len; omega, h.2⟩
theorem Gl.num : ∀ (k : Nat) (v : Int) (s : PS), Gl len s (pNum t len k v s).1
  | 0, _, s => Gl.rf len s
  | k + 1, v, s => by
    unfold pNum
    split
    · rename_i c
      exact Gl.adv t len (by omega) (Gl.num k _ (pAdv s))
    · exact Gl.rf len s
theorem nam_1 {c : Int} (h : ¬ nameF c < 0) : c ≠ -1 := fun z => by rw [z] at h; exact h (by decide)
theorem pP_g : ∀ (f l : Nat) (x : PS × Int), Gl len x.1 (pP t len nu f l x).1
  | 0, _, x => by unfold pP; exact Gl.rf len _
  | f + 1, 0, x => by
    unfold pP
    exact (pP_g f 1 x).tr len (pP_g f 6 _)
  | f + 1, 1, x => by
    unfold pP
    exact (pP_g f 2 x).tr len (pP_g f 7 _)
  | f + 1, 2, x => by
    unfold pP
    dsimp only
    split
    · rename_i c
      exact (pP_g f 3 x).tr len ((Gl.adv t len (by omega) (pP_g f 3 (pAdv (pP t len nu f 3 x).1, 0))).put len _)
    · exact pP_g f 3 x
  | f + 1, 3, x => by
    unfold pP
    exact (pP_g f 4 x).tr len (pP_g f 8 _)
  | f + 1, 4, x => by
    unfold pP
    exact (pP_g f 5 x).tr len (pP_g f 9 _)
  | f + 1, 5, x => by
    unfold pP
    dsimp only
    have cl : ∀ l, pHere t len x.1 ≠ -1 → Gl len x.1 (pOp (-1) (pP t len nu f l (pAdv (pOp 1 x.1), 0)).1) := fun l c => (Gl.adv t len (a := pOp 1 x.1) c (pP_g f l (pAdv (pOp 1 x.1), 0))).op len _
    split
    · split
      · exact (Gl.rf len _).flt len
      · exact (cl 5 (by omega)).put len _
    · split
      · split
        · exact (Gl.rf len _).flt len
        · split
          · exact (cl 0 (by omega)).to t len (by omega)
          · exact (cl 0 (by omega)).flt len
      · split
        · exact (Gl.num t len 4 0 x.1).put len _
        · split
          · exact (Gl.rf len _).flt len
          · rename_i c
            have hne := nam_1 c
            have hin := pH_in t len hne
            refine ⟨fun _ => ?_, fun z => ?_⟩
            · have : (pPut (10000 + nameF (pHere t len x.1)) x.1).1 = x.1.1 := by
                unfold pPut
                split <;> rfl
              show (pPut (10000 + nameF (pHere t len x.1)) x.1).1 + 1 ≤ len
              omega
            · rw [hin.1] at z
              exact absurd z (by decide)
  | f + 1, 6, x => by
    unfold pP
    dsimp only
    split
    · refine Gl.tr len ?_ (pP_g f 6 _)
      exact (Gl.adv t len (by omega) (pP_g f 1 (pAdv x.1, 0))).put len _
    · exact Gl.rf len _
  | f + 1, 7, x => by
    unfold pP
    dsimp only
    split
    · refine Gl.tr len ?_ (pP_g f 7 _)
      exact (Gl.adv t len (by omega) (pP_g f 2 (pAdv x.1, 0))).put len _
    · exact Gl.rf len _
  | f + 1, 8, x => by
    unfold pP
    dsimp only
    split
    · refine Gl.tr len ?_ (pP_g f 8 _)
      exact (Gl.adv t len (by omega) (pP_g f 4 (pAdv x.1, 0))).put len _
    · exact Gl.rf len _
  | f + 1, 9, x => by
    unfold pP
    dsimp only
    split
    · refine Gl.tr len ?_ (pP_g f 9 _)
      exact (Gl.adv t len (by omega) (pP_g f 5 (pAdv x.1, 0))).put len _
    · exact Gl.rf len _
  | f + 1, l + 10, x => by unfold pP; exact Gl.rf len _
/-- what is done with two numbers -/
def dnF (c a b : Int) : Int := if c = 20000 then tru (a ≠ 0 ∨ b ≠ 0) else if c = 20001 then tru (a ≠ 0 ∧ b ≠ 0) else if c = 20002 then tru (a < b) else if c = 20003 then tru (a = b) else if c = 20004 then tru (b < a) else if c = 20005 then wr (a + b) else if c = 20006 then wr (a - b) else if c = 20007 then wr (a * b) else dvd a b
def ex1 (c : Int) (st : List Int) : Option (List Int) := if c < 10000 then some (c :: st) else if c < 20000 then some (nu (c - 10000) :: st) else if c = 20009 then (match st with
  | a :: r => some (tru (a = 0) :: r)
  | [] => none) else (match st with
  | b :: a :: r => some (dnF c a b :: r)
  | _ => none)
def exL : List Int → List Int → Option (List Int)
  | [], st => some st
  | c :: cs, st => match ex1 nu c st with
    | some st' => exL cs st'
    | none => none
theorem exL_ap : ∀ (cs ds st st' : List Int), exL nu cs st = some st' → exL nu (cs ++ ds) st = exL nu ds st'
  | [], ds, st, st', h => by
    have : st = st' := Option.some.inj h
    rw [this]
    rfl
  | c :: cs, ds, st, st', h => by
    unfold exL at h
    show (match ex1 nu c st with
      | some st' => exL nu (cs ++ ds) st'
      | none => none) = _
    cases e : ex1 nu c st with
    | none =>
      rw [e] at h
      exact absurd h (by simp)
    | some st1 =>
      rw [e] at h
      exact exL_ap cs ds st1 st' h
theorem ex_bin {c : Int} (a b : Int) (st : List Int) (h : 20000 ≤ c) (h9 : c ≠ 20009) : exL nu [c] (b :: a :: st) = some (dnF c a b :: st) := by
  unfold exL ex1
  rw [if_neg (by omega), if_neg (by omega), if_neg h9]
  rfl
theorem ex_not (a : Int) (st : List Int) : exL nu [20009] (a :: st) = some (tru (a = 0) :: st) := by
  unfold exL ex1
  rw [if_neg (by decide), if_neg (by decide), if_pos rfl]
  rfl
theorem ex_num {v : Int} (st : List Int) (h : v < 10000) : exL nu [v] st = some (v :: st) := by
  unfold exL ex1
  rw [if_pos h]
  rfl
theorem ex_nam {k : Int} (st : List Int) (h0 : 0 ≤ k) (h : k ≤ 5) : exL nu [10000 + k] st = some (nu k :: st) := by
  unfold exL ex1
  rw [if_neg (by omega), if_pos (by omega), show 10000 + k - 10000 = k by omega]
  rfl
theorem pPut_nf {c : Int} {s : PS} (h : s.2.2.1 = false) : pPut c s = (s.1, s.2.1, s.2.2.1, s.2.2.2 ++ [c]) := by
  unfold pPut
  rw [if_neg (by rw [h]; decide)]
theorem pPut_f {c : Int} {s : PS} : (pPut c s).2.2.1 = s.2.2.1 := by
  unfold pPut
  split <;> rfl
theorem num_st : ∀ (k : Nat) (v : Int) (s : PS), (pNum t len k v s).1.2.2 = s.2.2
  | 0, _, _ => rfl
  | k + 1, v, s => by
    unfold pNum
    split
    · rw [num_st k _ (pAdv s)]
      rfl
    · rfl
theorem num_b : ∀ (k : Nat) (v B : Int) (s : PS), 0 ≤ v → v < B → (pNum t len k v s).2 < B * 10 ^ k
  | 0, v, B, s, v0, h => by
    show v < B * 10 ^ 0
    rw [Int.pow_zero, Int.mul_one]
    exact h
  | k + 1, v, B, s, v0, h => by
    unfold pNum
    have e : B * 10 ^ (k + 1) = (B * 10) * 10 ^ k := by rw [Int.pow_succ, Int.mul_comm (10 ^ k) 10, Int.mul_assoc]
    split
    · rw [e]
      exact num_b k _ (B * 10) (pAdv s) (by omega) (by omega)
    · have : 0 < (10 : Int) ^ (k + 1) := Int.pow_pos (by decide)
      have h2 : B * 1 ≤ B * 10 ^ (k + 1) := Int.mul_le_mul_of_nonneg_left (by omega) (by omega)
      show v < _
      omega
theorem cm_c (z : Int) : 20000 ≤ (if z = 60 then (20002 : Int) else if z = 61 then 20003 else 20004) ∧ (if z = 60 then (20002 : Int) else if z = 61 then 20003 else 20004) ≠ 20009 := by
  repeat' split
  all_goals exact ⟨by decide, by decide⟩
def Ex (nu : Int → Int) (l : Nat) (x r : PS × Int) : Prop := ∃ seg, r.1.2.2.2 = x.1.2.2.2 ++ seg ∧ ∀ st, exL nu seg (if l ≤ 5 then st else x.2 :: st) = some (r.2 :: st)
theorem pP_ex : ∀ (f l : Nat) (x : PS × Int), l ≤ 9 → x.1.1 ≤ len → 12 * (len - x.1.1) + fk l ≤ f → (pP t len nu f l x).1.2.2.1 = false → Ex nu l x (pP t len nu f l x) := by
  intro f
  induction f with
  | zero =>
    intro l x _ h hf
    have := fk_1 l
    omega
  | succ f ih =>
    intro l x hl h hf hr
    -- a part, and what goes on behind it
    have two : ∀ (j k : Nat), j ≤ 5 → 6 ≤ k → k ≤ 9 → l ≤ 5 → fk k = 1 → 12 * (len - x.1.1) + fk j ≤ f → 12 * (len - x.1.1) + 1 ≤ (f : Int) → (pP t len nu f k (pP t len nu f j x)).1.2.2.1 = false → Ex nu l x (pP t len nu f k (pP t len nu f j x)) := by
      intro j k hj hk hk9 hl5 ek fj f1 hr
      have g := pP_g t len nu f j x
      have g2 := pP_g t len nu f k (pP t len nu f j x)
      have m := pP_m t len nu f j x
      have nf : (pP t len nu f j x).1.2.2.1 = false := by
        cases e : (pP t len nu f j x).1.2.2.1
        · rfl
        · rw [g2.2 e] at hr
          exact absurd (show true = false from hr) (by decide)
      obtain ⟨s1, e1, q1⟩ := ih j x (by omega) h fj nf
      obtain ⟨s2, e2, q2⟩ := ih k (pP t len nu f j x) hk9 (g.1 h) (by have := m.1; rw [ek]; omega) hr
      refine ⟨s1 ++ s2, by rw [e2, e1, List.append_assoc], fun st => ?_⟩
      have q1 := q1 st
      have q2 := q2 st
      rw [if_pos hj] at q1
      rw [if_neg (by omega)] at q2
      rw [if_pos hl5, exL_ap nu s1 s2 st _ q1]
      exact q2
    -- a sign, another part, and what is done with the two
    have more : ∀ (j : Nat) (y : PS × Int) (c : Int), j ≤ 5 → 20000 ≤ c → c ≠ 20009 → pHere t len y.1 ≠ -1 → x.1.1 ≤ y.1.1 → 12 * (len - (y.1.1 + 1)) + fk j ≤ f → (pPut c (pP t len nu f j (pAdv y.1, 0)).1).2.2.1 = false → ∃ seg, (pPut c (pP t len nu f j (pAdv y.1, 0)).1).2.2.2 = y.1.2.2.2 ++ seg ∧ ∀ st, exL nu seg (y.2 :: st) = some (dnF c y.2 (pP t len nu f j (pAdv y.1, 0)).2 :: st) := by
      intro j y c hj c1 c9 hc hy fj nf
      have hin := pH_in t len hc
      rw [pPut_f] at nf
      obtain ⟨s1, e1, q1⟩ := ih j (pAdv y.1, 0) (by omega) (by show y.1.1 + 1 ≤ len; omega) fj nf
      refine ⟨s1 ++ [c], ?_, fun st => ?_⟩
      · rw [pPut_nf nf]
        show (pP t len nu f j (pAdv y.1, 0)).1.2.2.2 ++ [c] = _
        rw [e1, List.append_assoc]
        rfl
      · have q1 := q1 (y.2 :: st)
        rw [if_pos hj] at q1
        rw [exL_ap nu s1 [c] _ _ q1]
        exact ex_bin nu _ _ _ c1 c9
    -- what goes on: a sign, a part, on
    have on : ∀ (j : Nat) (c w : Int), 6 ≤ l → j ≤ 5 → 20000 ≤ c → c ≠ 20009 → fk l = 1 → pHere t len x.1 ≠ -1 → fk j ≤ 6 → dnF c x.2 (pP t len nu f j (pAdv x.1, 0)).2 = w → (pP t len nu f l (pPut c (pP t len nu f j (pAdv x.1, 0)).1, w)).1.2.2.1 = false → Ex nu l x (pP t len nu f l (pPut c (pP t len nu f j (pAdv x.1, 0)).1, w)) := by
      intro j c w hl6 hj c1 c9 el hc fj ew hr
      have hin := pH_in t len hc
      have g := pP_g t len nu f j (pAdv x.1, 0)
      have m := pP_m t len nu f j (pAdv x.1, 0)
      have gp := (Gt.rf (pP t len nu f j (pAdv x.1, 0)).1).put c
      have gl := (Gl.rf len (pP t len nu f j (pAdv x.1, 0)).1).put len c
      have g2 := pP_g t len nu f l (pPut c (pP t len nu f j (pAdv x.1, 0)).1, w)
      have nf : (pPut c (pP t len nu f j (pAdv x.1, 0)).1).2.2.1 = false := by
        cases e : (pPut c (pP t len nu f j (pAdv x.1, 0)).1).2.2.1
        · rfl
        · rw [g2.2 e] at hr
          exact absurd (show true = false from hr) (by decide)
      rw [el] at hf
      obtain ⟨s1, e1, q1⟩ := more j x c hj c1 c9 hc (Int.le_refl _) (by omega) nf
      have m1 : x.1.1 + 1 ≤ (pP t len nu f j (pAdv x.1, 0)).1.1 := m.1
      have le : (pPut c (pP t len nu f j (pAdv x.1, 0)).1).1 ≤ len := gl.1 (g.1 (by show x.1.1 + 1 ≤ len; omega))
      obtain ⟨s2, e2, q2⟩ := ih l (pPut c (pP t len nu f j (pAdv x.1, 0)).1, w) hl le (by have := gp.1; show 12 * (len - (pPut c (pP t len nu f j (pAdv x.1, 0)).1).1) + fk l ≤ _; rw [el]; omega) hr
      refine ⟨s1 ++ s2, ?_, fun st => ?_⟩
      · rw [e2]
        show (pPut c (pP t len nu f j (pAdv x.1, 0)).1).2.2.2 ++ s2 = _
        rw [e1, List.append_assoc]
      · have q1 := q1 st
        have q2 := q2 st
        rw [if_neg (by omega)] at q2
        rw [if_neg (by omega), exL_ap nu s1 s2 _ _ q1, ew]
        exact q2
    have stay : 6 ≤ l → Ex nu l x x := fun hl6 => ⟨[], by rw [List.append_nil], fun st => by
      rw [if_neg (by omega)]
      rfl⟩
    match l, hl, hf, hr, two, on, stay with
    | 0, hl, hf, hr, two, on, stay =>
      simp only [fk] at hf
      unfold pP at hr ⊢
      exact two 1 6 (by omega) (by omega) (by omega) (by omega) rfl (by simp only [fk]; omega) (by omega) hr
    | 1, hl, hf, hr, two, on, stay =>
      simp only [fk] at hf
      unfold pP at hr ⊢
      exact two 2 7 (by omega) (by omega) (by omega) (by omega) rfl (by simp only [fk]; omega) (by omega) hr
    | 3, hl, hf, hr, two, on, stay =>
      simp only [fk] at hf
      unfold pP at hr ⊢
      exact two 4 8 (by omega) (by omega) (by omega) (by omega) rfl (by simp only [fk]; omega) (by omega) hr
    | 4, hl, hf, hr, two, on, stay =>
      simp only [fk] at hf
      unfold pP at hr ⊢
      exact two 5 9 (by omega) (by omega) (by omega) (by omega) rfl (by simp only [fk]; omega) (by omega) hr
    | 2, hl, hf, hr, two, on, stay =>
      simp only [fk] at hf
      unfold pP at hr ⊢
      dsimp only at hr ⊢
      have g := pP_g t len nu f 3 x
      have m := pP_m t len nu f 3 x
      have ih1 := ih 3 x (by omega) h (by simp only [fk]; omega)
      generalize pP t len nu f 3 x = r at g m ih1 hr ⊢
      split at hr
      · rename_i c
        rw [if_pos c]
        have hin := pH_in t len (s := r.1) (by omega)
        have nf : r.1.2.2.1 = false := hin.1
        obtain ⟨s1, e1, q1⟩ := ih1 nf
        obtain ⟨s2, e2, q2⟩ := more 3 r (if pHere t len r.1 = 60 then 20002 else if pHere t len r.1 = 61 then 20003 else 20004) (by omega) (cm_c _).1 (cm_c _).2 (by omega) m.1 (by have := m.1; simp only [fk]; omega) hr
        refine ⟨s1 ++ s2, ?_, fun st => ?_⟩
        · show (pPut _ _).2.2.2 = _
          rw [e2, e1, List.append_assoc]
        · have q1 := q1 st
          have q2 := q2 st
          rw [if_pos (by omega)] at q1
          rw [if_pos (by omega), exL_ap nu s1 s2 _ _ q1, q2]
          congr 2
          rcases c with z | z | z
          · rw [z]; rfl
          · rw [z]; rfl
          · rw [z]; rfl
      · rename_i c
        rw [if_neg c]
        obtain ⟨s1, e1, q1⟩ := ih1 hr
        exact ⟨s1, e1, fun st => by have := q1 st; rw [if_pos (by omega)] at this ⊢; exact this⟩
    | 6, hl, hf, hr, two, on, stay =>
      unfold pP at hr ⊢
      split at hr
      · rename_i c
        rw [if_pos c]
        exact on 1 20000 _ (by omega) (by omega) (by omega) (by omega) rfl (by omega) (by simp only [fk]; omega) rfl hr
      · rename_i c
        rw [if_neg c]
        exact stay (by omega)
    | 7, hl, hf, hr, two, on, stay =>
      unfold pP at hr ⊢
      split at hr
      · rename_i c
        rw [if_pos c]
        exact on 2 20001 _ (by omega) (by omega) (by omega) (by omega) rfl (by omega) (by simp only [fk]; omega) rfl hr
      · rename_i c
        rw [if_neg c]
        exact stay (by omega)
    | 8, hl, hf, hr, two, on, stay =>
      unfold pP at hr ⊢
      dsimp only at hr ⊢
      split at hr
      · rename_i c
        rw [if_pos c]
        refine on 4 _ _ (by omega) (by omega) (by split <;> omega) (by split <;> omega) rfl (by omega) (by simp only [fk]; omega) ?_ hr
        rcases c with z | z
        · rw [z]; rfl
        · rw [z]; rfl
      · rename_i c
        rw [if_neg c]
        exact stay (by omega)
    | 9, hl, hf, hr, two, on, stay =>
      unfold pP at hr ⊢
      dsimp only at hr ⊢
      split at hr
      · rename_i c
        rw [if_pos c]
        refine on 5 _ _ (by omega) (by omega) (by split <;> omega) (by split <;> omega) rfl (by omega) (by simp only [fk]; omega) ?_ hr
        rcases c with z | z
        · rw [z]; rfl
        · rw [z]; rfl
      · rename_i c
        rw [if_neg c]
        exact stay (by omega)
    | 5, hl, hf, hr, two, on, stay =>
      simp only [fk] at hf
      unfold pP at hr ⊢
      dsimp only at hr ⊢
      by_cases c1 : pHere t len x.1 = 33
      · rw [if_pos c1] at hr ⊢
        by_cases o5 : x.1.2.1 = 5
        · rw [if_pos o5] at hr
          exact absurd (show true = false from hr) (by decide)
        · rw [if_neg o5] at hr ⊢
          have hin := pH_in t len (s := x.1) (by omega)
          have nf : (pOp (-1) (pP t len nu f 5 (pAdv (pOp 1 x.1), 0)).1).2.2.1 = false := by
            rw [pPut_f] at hr
            exact hr
          obtain ⟨s1, e1, q1⟩ := ih 5 (pAdv (pOp 1 x.1), 0) (by omega) (by show x.1.1 + 1 ≤ len; omega) (by show 12 * (len - (x.1.1 + 1)) + 1 ≤ _; omega) nf
          refine ⟨s1 ++ [20009], ?_, fun st => ?_⟩
          · rw [pPut_nf nf]
            show (pP t len nu f 5 (pAdv (pOp 1 x.1), 0)).1.2.2.2 ++ [20009] = _
            rw [e1, List.append_assoc]
            rfl
          · have q1 := q1 st
            rw [if_pos (by omega)] at q1
            rw [if_pos (by omega), exL_ap nu s1 [20009] _ _ q1]
            exact ex_not nu _ _
      · rw [if_neg c1] at hr ⊢
        by_cases c2 : pHere t len x.1 = 40
        · rw [if_pos c2] at hr ⊢
          by_cases o5 : x.1.2.1 = 5
          · rw [if_pos o5] at hr
            exact absurd (show true = false from hr) (by decide)
          · rw [if_neg o5] at hr ⊢
            have hin := pH_in t len (s := x.1) (by omega)
            have ih0 := ih 0 (pAdv (pOp 1 x.1), 0) (by omega) (by show x.1.1 + 1 ≤ len; omega) (by show 12 * (len - (x.1.1 + 1)) + 6 ≤ _; omega)
            generalize pP t len nu f 0 (pAdv (pOp 1 x.1), 0) = r at hr ih0 ⊢
            by_cases c3 : pHere t len (pOp (-1) r.1) = 41
            · rw [if_pos c3] at hr ⊢
              obtain ⟨s1, e1, q1⟩ := ih0 hr
              exact ⟨s1, e1, fun st => by have := q1 st; rw [if_pos (by omega)] at this ⊢; exact this⟩
            · rw [if_neg c3] at hr
              exact absurd (show true = false from hr) (by decide)
        · rw [if_neg c2] at hr ⊢
          by_cases c3 : 48 ≤ pHere t len x.1 ∧ pHere t len x.1 ≤ 57
          · rw [if_pos c3] at hr ⊢
            have hin := pH_in t len (s := x.1) (by omega)
            have ns := num_st t len 4 0 x.1
            have nb := num_b t len 4 0 1 x.1 (by omega) (by omega)
            have nf : (pNum t len 4 0 x.1).1.2.2.1 = false := by rw [ns]; exact hin.1
            refine ⟨[(pNum t len 4 0 x.1).2], ?_, fun st => ?_⟩
            · rw [pPut_nf nf, ns]
            · rw [if_pos (by omega)]
              exact ex_num nu _ (by omega)
          · rw [if_neg c3] at hr ⊢
            by_cases c4 : nameF (pHere t len x.1) < 0
            · rw [if_pos c4] at hr
              exact absurd (show true = false from hr) (by decide)
            · rw [if_neg c4] at hr ⊢
              have hin := pH_in t len (nam_1 c4)
              have nb := nameF_b (pHere t len x.1)
              refine ⟨[10000 + nameF (pHere t len x.1)], ?_, fun st => ?_⟩
              · rw [pPut_nf hin.1]
                rfl
              · rw [if_pos (by omega)]
                exact ex_nam nu _ (by omega) (by omega)
end EXC
