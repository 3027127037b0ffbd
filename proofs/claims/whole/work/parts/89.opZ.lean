/-! ===== voice ===== -/
section VOI
variable {s : St} {M : Mm} {Q : Mm → Option Mv → Prop} {n : Int → Int}
abbrev Tr : Type := (Int → Int) × Int
def bgn (b : Int) (T : Tr) : Tr := if 40 ≤ T.2 then T else (up T.1 T.2 b, T.2 + 1)
def btc (c : Int) : Int := if c = 0 then 10 else if c = 1 then 11 else if c = 2 then 12 else if c = 3 then 13 else if c = 5 then 20 else if c = 8 then 30 else if c = 11 then 31 else if c = 12 then 41 else if c = 14 then 40 else if c = 19 then 50 else if c = 21 then 61 else if c = 22 then 60 else 0
def bt (k a : Int) : Int := btc (4 * k + a)
/-- the BODY of an act from a KIND on upwards -/
def bd (k a : Int) : Int := if bt k a ≠ 0 then bt k a else if k = 3 ∨ k = 5 then (if bt 2 a ≠ 0 then bt 2 a else bt 0 a) else bt 0 a
def vF (K N F : Int) : Nat → Int → Int → Tr → Tr × Int
  | 0, _, _, T => (T, 0)
  | f + 1, b, x, T =>
    if b = 10 then (bgn b T, wr (x + F))
    else if b = 11 then
      let r := vF K N F f (bd K 0) x (bgn b T)
      (r.1, wr (r.2 * 2))
    else if b = 12 then (bgn b T, wr (x - N))
    else if b = 13 then
      let r := vF K N F f (bd K 1) x (bgn b T)
      let q := vF K N F f (bd K 2) x r.1
      (q.1, bXor r.2 q.2)
    else if b = 20 then
      let r := vF K N F f (bd 0 1) x (bgn b T)
      let q := vF K N F f (bd K 2) x r.1
      (q.1, wr (r.2 - q.2))
    else if b = 30 then
      let r := vF K N F f (bd 0 0) x (bgn b T)
      (r.1, wr (r.2 + N))
    else if b = 31 then vF K N F f (bd 0 3) (wr (x + 1)) (bgn b T)
    else if b = 40 then
      let r := vF K N F f (bd 2 2) x (bgn b T)
      (r.1, wr (r.2 * 3))
    else if b = 41 then vF K N F f (bd 2 0) (wr (x - F)) (bgn b T)
    else if b = 50 then
      let r := vF K N F f (bd K 2) x (bgn b T)
      let q := vF K N F f (bd 0 3) x r.1
      (q.1, wr (r.2 - q.2))
    else if b = 60 then vF K N F f (bd 2 2) (wr (x + N)) (bgn b T)
    else if b = 61 then
      let r := vF K N F f (bd 2 1) x (bgn b T)
      let q := vF K N F f (bd K 0) x r.1
      (q.1, bXor r.2 q.2)
    else (T, 0)
def lvl (b : Int) : Int := if b = 10 ∨ b = 12 then 1 else if b = 30 ∨ b = 40 ∨ b = 60 then 2 else if b = 41 then 3 else if b = 11 then 4 else if b = 20 ∨ b = 61 then 5 else if b = 13 then 6 else 7
def isB (b : Int) : Prop := b = 10 ∨ b = 11 ∨ b = 12 ∨ b = 13 ∨ b = 20 ∨ b = 30 ∨ b = 31 ∨ b = 40 ∨ b = 41 ∨ b = 50 ∨ b = 60 ∨ b = 61
theorem k6 {k : Int} (h : 0 ≤ k ∧ k ≤ 5) : k = 0 ∨ k = 1 ∨ k = 2 ∨ k = 3 ∨ k = 4 ∨ k = 5 := by omega
theorem a4 {a : Int} (h : 0 ≤ a ∧ a ≤ 3) : a = 0 ∨ a = 1 ∨ a = 2 ∨ a = 3 := by omega
/-- what the BODIES lead to -/
theorem bd_l {k : Int} (h : 0 ≤ k ∧ k ≤ 5) : (lvl (bd k 0) ≤ 3 ∧ lvl (bd k 1) ≤ 5 ∧ lvl (bd k 2) ≤ 2 ∧ lvl (bd k 3) ≤ 7) ∧ isB (bd k 0) ∧ isB (bd k 1) ∧ isB (bd k 2) ∧ isB (bd k 3) := by
  unfold isB
  rcases k6 h with z | z | z | z | z | z <;> rw [z] <;> decide
theorem bd_k : bd 0 0 = 10 ∧ bd 0 1 = 11 ∧ bd 0 3 = 13 ∧ bd 2 2 = 12 ∧ bd 2 0 = 30 ∧ bd 2 1 = 11 := by decide
theorem lvl_1 (b : Int) : 1 ≤ lvl b := by
  unfold lvl
  repeat' split
  all_goals omega
theorem bt_0 {a : Int} (h : 0 ≤ a ∧ a ≤ 3) : bt 0 a ≠ 0 := by
  rcases a4 h with z | z | z | z <;> rw [z] <;> decide
/-! the class -/
def tbC (M : Mm) : Prop := (∀ k a, 0 ≤ k → k ≤ 5 → 0 ≤ a → a ≤ 3 → gI M 1002 (k * 4 + a) = bt k a) ∧ ∀ k, 0 ≤ k → k ≤ 5 → gI M 1001 k = aboveF k
theorem CI.tb (h : CI s M) : tbC M := by
  obtain ⟨ab, b0, b1, b2, b3, b4, b5, b6, b7, b8, b9, b10, b11, b12, b13, b14, b15, b16, b17, b18, b19, b20, b21, b22, b23⟩ := h.2.2.2.2.2.2.2
  refine ⟨fun k a k0 k1 a0 a1 => ?_, fun k k0 k1 => ?_⟩
  · rcases k6 ⟨k0, k1⟩ with z | z | z | z | z | z <;> rcases a4 ⟨a0, a1⟩ with y | y | y | y <;> subst z <;> subst y
    · exact b0
    · exact b1
    · exact b2
    · exact b3
    · exact b4
    · exact b5
    · exact b6
    · exact b7
    · exact b8
    · exact b9
    · exact b10
    · exact b11
    · exact b12
    · exact b13
    · exact b14
    · exact b15
    · exact b16
    · exact b17
    · exact b18
    · exact b19
    · exact b20
    · exact b21
    · exact b22
    · exact b23
  · rw [ab k k0 (by omega)]
    rcases k6 ⟨k0, k1⟩ with z | z | z | z | z | z <;> subst z <;> decide
/-- the class's cells hold a trace -/
def CT (M0 : Mm) (T : Tr) (M : Mm) : Prop := RefOK M ∧ (∀ b : Nat, b ≠ 66 → b ≠ 67 → gI M b = gI M0 b) ∧ gL M = gL M0 ∧ (∀ y, y ≠ 1 → gI M 66 y = gI M0 66 y) ∧ gI M 66 1 = T.2 ∧ (∀ i, 0 ≤ i → i < T.2 → gI M 67 i = T.1 i) ∧ (0 ≤ T.2 ∧ T.2 ≤ 40)
theorem callC {R : Mm → Prop} {e : Nat} {k a x dp val : Int} (tb : tbC M) (k0 : 0 ≤ k ∧ k ≤ 5) (a0 : 0 ≤ a ∧ a ≤ 3) (S : ∀ Q1 : Mm → Option Mv → Prop, (∀ M', R M' → Q1 M' (some (vI val))) → Wq (e + 2) 0 0 mV_speak 0 [iR 66, iI (bd k a), iI x, iI dp, none] [] M Q1) (hq : ∀ M', R M' → Q M' (some (vI val))) : Wq (e + 3) 0 0 mV_call 0 [iR 66, iI k, iI a, iI x, iI dp, none, none, none] [] M Q := by
  have go : ∀ k' i : Int, 0 ≤ k' → k' ≤ 5 → 0 ≤ i → i < 6 → bt k' a ≠ 0 → bd k a = bt k' a → Wq (e + 3) 0 0 mV_call 6 [iR 66, iI k, iI a, iI x, iI dp, iI k', iI i, none] [] M Q := by
    intro k' i h0 h1 i0 i1 nz eb
    refine B_V_call_6 ⟨fun z => by omega, fun _ => ⟨fun _ => ?_, fun z => absurd ⟨h0, h1⟩ z⟩⟩
    rw [tb.1 k' a h0 h1 a0.1 a0.2]
    refine ⟨by omega, fun z => absurd z nz, fun _ => ?_⟩
    rw [eb] at S
    exact S _ (fun M' h' => B_V_call_47 (hq M' h'))
  have sk : ∀ k' i : Int, 0 ≤ k' → k' ≤ 5 → 0 ≤ i → i < 6 → bt k' a = 0 → Wq (e + 3) 0 0 mV_call 6 [iR 66, iI k, iI a, iI x, iI dp, iI (aboveF k'), iI (i + 1), none] [] M Q → Wq (e + 3) 0 0 mV_call 6 [iR 66, iI k, iI a, iI x, iI dp, iI k', iI i, none] [] M Q := by
    intro k' i h0 h1 i0 i1 z nx
    refine B_V_call_6 ⟨fun z => by omega, fun _ => ⟨fun _ => ?_, fun z => absurd ⟨h0, h1⟩ z⟩⟩
    rw [tb.1 k' a h0 h1 a0.1 a0.2, tb.2 k' h0 h1]
    exact ⟨by omega, fun _ => ⟨by omega, nx⟩, fun y => absurd z y⟩
  have z0 := bt_0 a0
  refine B_V_call_0 ?_
  by_cases c1 : bt k a ≠ 0
  · exact go k 0 k0.1 k0.2 (by decide) (by decide) c1 (if_pos c1)
  · have c1' : bt k a = 0 := Classical.not_not.1 c1
    refine sk k 0 k0.1 k0.2 (by decide) (by decide) c1' ?_
    by_cases c2 : k = 3 ∨ k = 5
    · have e2 : aboveF k = 2 := if_pos c2
      rw [e2]
      by_cases c3 : bt 2 a ≠ 0
      · exact go 2 (0 + 1) (by decide) (by decide) (by decide) (by decide) c3 ((if_neg c1).trans ((if_pos c2).trans (if_pos c3)))
      · refine sk 2 (0 + 1) (by decide) (by decide) (by decide) (by decide) (Classical.not_not.1 c3) ?_
        exact go 0 (0 + 1 + 1) (by decide) (by decide) (by decide) (by decide) z0 ((if_neg c1).trans ((if_pos c2).trans (if_neg c3)))
    · have hk : k ≠ 0 := fun z => z0 (z ▸ c1')
      have e2 : aboveF k = 0 := (if_neg c2).trans (if_neg hk)
      rw [e2]
      exact go 0 (0 + 1) (by decide) (by decide) (by decide) (by decide) z0 ((if_neg c1).trans (if_neg c2))
theorem spkC {K N F : Int} {M0 : Mm} (tb : tbC M0) (K0 : 0 ≤ K ∧ K ≤ 5) (e2 : gI M0 66 2 = K) (e3 : gI M0 66 3 = N) (e4 : gI M0 66 4 = F) : ∀ (f d : Nat) (b x dp : Int) (T : Tr) (M : Mm) (Q : Mm → Option Mv → Prop), CT M0 T M → isB b → lvl b ≤ f → (0 ≤ dp ∧ dp + lvl b ≤ 8) → 2 * lvl b + 1 ≤ d + 3 → (∀ M', CT M0 (vF K N F f b x T).1 M' → Q M' (some (vI (vF K N F f b x T).2))) → Wq (d + 3) 0 0 mV_speak 0 [iR 66, iI b, iI x, iI dp, none] [] M Q := by
  intro f
  induction f with
  | zero =>
    intro d b x dp T M Q h b0 hl
    have := lvl_1 b
    omega
  | succ f ih =>
    intro d b x dp T M Q h b0 hl hdp hd hq
    obtain ⟨kl, kz⟩ := bd_l K0
    have l0 := (bd_l (k := 0) (by decide)).1
    have z0 := (bd_l (k := 0) (by decide)).2
    have l2 := (bd_l (k := 2) (by decide)).1
    have z2 := (bd_l (k := 2) (by decide)).2
    have lb := lvl_1 b
    unfold vF at hq
    dsimp only at hq
    -- another act
    have cl : ∀ (k a x' : Int) (T' : Tr) (M1 : Mm) (Q1 : Mm → Option Mv → Prop), CT M0 T' M1 → (0 ≤ k ∧ k ≤ 5) → (0 ≤ a ∧ a ≤ 3) → isB (bd k a) → lvl (bd k a) + 1 ≤ lvl b → (∀ M', CT M0 (vF K N F f (bd k a) x' T').1 M' → Q1 M' (some (vI (vF K N F f (bd k a) x' T').2))) → Wq (d + 2) 0 0 mV_call 0 [iR 66, iI k, iI a, iI x', iI (wr (dp + 1)), none, none, none] [] M1 Q1 := by
      intro k a x' T' M1 Q1 h1 k0 a0 nz hlv q1
      have l1 := lvl_1 (bd k a)
      obtain ⟨d, rfl⟩ : ∃ d', d = d' + 2 := ⟨d - 2, by omega⟩
      rw [wr_eq (by omega) (by omega)]
      have tb1 : tbC M1 := ⟨fun k a p q r s => by rw [h1.2.1 1002 (by decide) (by decide)]; exact tb.1 k a p q r s, fun k p q => by rw [h1.2.1 1001 (by decide) (by decide)]; exact tb.2 k p q⟩
      exact callC (e := d + 1) (R := CT M0 (vF K N F f (bd k a) x' T').1) tb1 k0 a0 (fun Q2 q2 => ih d (bd k a) x' (dp + 1) T' M1 Q2 h1 nz (by omega) (by omega) (by omega) q2) q1
    have cases : ∀ M1, CT M0 (bgn b T) M1 → Wq (d + 3) 0 0 mV_speak 37 [iR 66, iI b, iI x, iI dp, none] [] M1 Q := by
      intro M1 h1
      have f2 : ∀ {T' M2}, CT M0 T' M2 → gI M2 66 2 = K := fun g => (g.2.2.2.1 2 (by decide)).trans e2
      have f3 : ∀ {T' M2}, CT M0 T' M2 → gI M2 66 3 = N := fun g => (g.2.2.2.1 3 (by decide)).trans e3
      have f4 : ∀ {T' M2}, CT M0 T' M2 → gI M2 66 4 = F := fun g => (g.2.2.2.1 4 (by decide)).trans e4
      refine B_V_speak_37 ?_
      rw [f2 h1, f3 h1, f4 h1]
      refine ⟨fun z => ?_, fun z => ?_, fun z => ?_, fun z => ?_, fun z => ?_, fun z => ?_, fun z => ?_, fun z => ?_, fun z => ?_, fun z => ?_, fun z => ?_, fun z => ?_, fun z => ?_⟩
      · rw [if_pos z] at hq
        exact hq M1 h1
      · rw [if_neg (by omega), if_pos z] at hq
        have eb : lvl b = 4 := by rw [z]; decide
        refine cl K 0 x _ M1 _ h1 K0 (by decide) kz.1 (by omega) (fun M2 h2 => B_V_speak_167 ?_)
        exact hq M2 h2
      · rw [if_neg (by omega), if_neg (by omega), if_pos z] at hq
        exact hq M1 h1
      · rw [if_neg (by omega), if_neg (by omega), if_neg (by omega), if_pos z] at hq
        have eb : lvl b = 6 := by rw [z]; decide
        refine cl K 1 x _ M1 _ h1 K0 (by decide) kz.2.1 (by omega) (fun M2 h2 => B_V_speak_189 ?_)
        rw [f2 h2]
        exact cl K 2 x _ M2 _ h2 K0 (by decide) kz.2.2.1 (by omega) (fun M3 h3 => B_V_speak_201 (hq M3 h3))
      · rw [if_neg (by omega), if_neg (by omega), if_neg (by omega), if_neg (by omega), if_pos z] at hq
        have eb : lvl b = 5 := by rw [z]; decide
        refine cl 0 1 x _ M1 _ h1 (by decide) (by decide) z0.2.1 (by rw [bd_k.2.1, eb]; decide) (fun M2 h2 => B_V_speak_212 ?_)
        rw [f2 h2]
        exact cl K 2 x _ M2 _ h2 K0 (by decide) kz.2.2.1 (by omega) (fun M3 h3 => B_V_speak_224 (hq M3 h3))
      · rw [if_neg (by omega), if_neg (by omega), if_neg (by omega), if_neg (by omega), if_neg (by omega), if_pos z] at hq
        have eb : lvl b = 2 := by rw [z]; decide
        refine cl 0 0 x _ M1 _ h1 (by decide) (by decide) z0.1 (by rw [bd_k.1, eb]; decide) (fun M2 h2 => B_V_speak_235 ?_)
        rw [f3 h2]
        exact hq M2 h2
      · rw [if_neg (by omega), if_neg (by omega), if_neg (by omega), if_neg (by omega), if_neg (by omega), if_neg (by omega), if_pos z] at hq
        have eb : lvl b = 7 := by rw [z]; decide
        refine cl 0 3 (wr (x + 1)) _ M1 _ h1 (by decide) (by decide) z0.2.2.2 (by rw [bd_k.2.2.1, eb]; decide) (fun M2 h2 => B_V_speak_252 ?_)
        exact hq M2 h2
      · rw [if_neg (by omega), if_neg (by omega), if_neg (by omega), if_neg (by omega), if_neg (by omega), if_neg (by omega), if_neg (by omega), if_pos z] at hq
        have eb : lvl b = 2 := by rw [z]; decide
        refine cl 2 2 x _ M1 _ h1 (by decide) (by decide) z2.2.2.1 (by rw [bd_k.2.2.2.1, eb]; decide) (fun M2 h2 => B_V_speak_262 ?_)
        exact hq M2 h2
      · rw [if_neg (by omega), if_neg (by omega), if_neg (by omega), if_neg (by omega), if_neg (by omega), if_neg (by omega), if_neg (by omega), if_neg (by omega), if_pos z] at hq
        have eb : lvl b = 3 := by rw [z]; decide
        refine cl 2 0 (wr (x - F)) _ M1 _ h1 (by decide) (by decide) z2.1 (by rw [bd_k.2.2.2.2.1, eb]; decide) (fun M2 h2 => B_V_speak_279 ?_)
        exact hq M2 h2
      · rw [if_neg (by omega), if_neg (by omega), if_neg (by omega), if_neg (by omega), if_neg (by omega), if_neg (by omega), if_neg (by omega), if_neg (by omega), if_neg (by omega), if_pos z] at hq
        have eb : lvl b = 7 := by rw [z]; decide
        refine cl K 2 x _ M1 _ h1 K0 (by decide) kz.2.2.1 (by omega) (fun M2 h2 => B_V_speak_292 ?_)
        exact cl 0 3 x _ M2 _ h2 (by decide) (by decide) z0.2.2.2 (by rw [bd_k.2.2.1, eb]; decide) (fun M3 h3 => B_V_speak_301 (hq M3 h3))
      · rw [if_neg (by omega), if_neg (by omega), if_neg (by omega), if_neg (by omega), if_neg (by omega), if_neg (by omega), if_neg (by omega), if_neg (by omega), if_neg (by omega), if_neg (by omega), if_pos z] at hq
        have eb : lvl b = 2 := by rw [z]; decide
        refine cl 2 2 (wr (x + N)) _ M1 _ h1 (by decide) (by decide) z2.2.2.1 (by rw [bd_k.2.2.2.1, eb]; decide) (fun M2 h2 => B_V_speak_317 ?_)
        exact hq M2 h2
      · rw [if_neg (by omega), if_neg (by omega), if_neg (by omega), if_neg (by omega), if_neg (by omega), if_neg (by omega), if_neg (by omega), if_neg (by omega), if_neg (by omega), if_neg (by omega), if_neg (by omega), if_pos z] at hq
        have eb : lvl b = 5 := by rw [z]; decide
        refine cl 2 1 x _ M1 _ h1 (by decide) (by decide) z2.2.1 (by rw [bd_k.2.2.2.2.2, eb]; decide) (fun M2 h2 => B_V_speak_327 ?_)
        rw [f2 h2]
        exact cl K 0 x _ M2 _ h2 K0 (by decide) kz.1 (by omega) (fun M3 h3 => B_V_speak_339 (hq M3 h3))
      · unfold isB at b0
        omega
    obtain ⟨g0, g1, g2, g3, g4, g5, g6⟩ := h
    refine B_V_speak_0 g0 ⟨fun _ => ⟨fun z => ?_, fun z => ?_⟩, fun z => by omega⟩
    · refine cases M ?_
      unfold bgn
      rw [if_pos (by omega)]
      exact ⟨g0, g1, g2, g3, g4, g5, g6⟩
    · rw [g4] at z ⊢
      rw [wr_eq (by omega) (by omega)]
      refine ⟨by omega, cases _ ?_⟩
      unfold bgn
      rw [if_neg z]
      refine ⟨g0, fun b b1 b2 => by rw [gI_ot b1, gI_ot b2]; exact g1 b b1 b2, g2, fun y hy => by rw [gI_up, up_n hy, gI_ot (by decide)]; exact g3 y hy, by rw [gI_up, up_s], fun i i0 i1 => ?_, by show 0 ≤ T.2 + 1 ∧ T.2 + 1 ≤ 40; omega⟩
      have i1 : i < T.2 + 1 := i1
      rw [gI_ot (by decide), gI_up]
      show up _ _ _ i = up _ _ _ i
      by_cases c : i = T.2
      · rw [c, up_s, up_s]
      · rw [up_n c, up_n c]
        exact g5 i i0 (by omega)
theorem bgn_b {b : Int} {T : Tr} (h : 0 ≤ T.2 ∧ T.2 ≤ 40) : 0 ≤ (bgn b T).2 ∧ (bgn b T).2 ≤ 40 := by
  unfold bgn
  split
  · exact h
  · show 0 ≤ T.2 + 1 ∧ T.2 + 1 ≤ 40
    omega
def inT (T : Tr) : Prop := 0 ≤ T.2 ∧ T.2 ≤ 40
theorem vF_b {K N F : Int} : ∀ (f : Nat) (b x : Int) (T : Tr), inT T → inT (vF K N F f b x T).1
  | 0, _, _, _, h => h
  | f + 1, b, x, T, h => by
    have g : inT (bgn b T) := bgn_b (b := b) h
    unfold vF
    dsimp only
    by_cases c10 : b = 10
    · rw [if_pos c10]
      exact g
    rw [if_neg c10]
    by_cases c11 : b = 11
    · rw [if_pos c11]
      exact vF_b f _ _ _ g
    rw [if_neg c11]
    by_cases c12 : b = 12
    · rw [if_pos c12]
      exact g
    rw [if_neg c12]
    by_cases c13 : b = 13
    · rw [if_pos c13]
      exact vF_b f _ _ _ (vF_b f _ _ _ g)
    rw [if_neg c13]
    by_cases c20 : b = 20
    · rw [if_pos c20]
      exact vF_b f _ _ _ (vF_b f _ _ _ g)
    rw [if_neg c20]
    by_cases c30 : b = 30
    · rw [if_pos c30]
      exact vF_b f _ _ _ g
    rw [if_neg c30]
    by_cases c31 : b = 31
    · rw [if_pos c31]
      exact vF_b f _ _ _ g
    rw [if_neg c31]
    by_cases c40 : b = 40
    · rw [if_pos c40]
      exact vF_b f _ _ _ g
    rw [if_neg c40]
    by_cases c41 : b = 41
    · rw [if_pos c41]
      exact vF_b f _ _ _ g
    rw [if_neg c41]
    by_cases c50 : b = 50
    · rw [if_pos c50]
      exact vF_b f _ _ _ (vF_b f _ _ _ g)
    rw [if_neg c50]
    by_cases c60 : b = 60
    · rw [if_pos c60]
      exact vF_b f _ _ _ g
    rw [if_neg c60]
    by_cases c61 : b = 61
    · rw [if_pos c61]
      exact vF_b f _ _ _ (vF_b f _ _ _ g)
    rw [if_neg c61]
    exact h
/-- with another trace -/
def wT (s : St) (T : Tr) : St := (s.1, s.2.1, s.2.2.1, s.2.2.2.1, s.2.2.2.2.1, s.2.2.2.2.2.1, s.2.2.2.2.2.2.1, T.1, T.2)
def voR (s : St) (w a x : Int) : Tr × Int := vF (sn s (10 + 3 * w)) w (sn s (12 + 3 * w)) 7 (bd (sn s (10 + 3 * w)) a) x (str s, 0)
def o_voice (s : St) (w a x : Int) : St × Int := if (0 ≤ w ∧ w < sn s 2) ∧ (0 ≤ a ∧ a ≤ 3) then (wT s (voR s w a x).1, (voR s w a x).2) else fnd s 1
theorem w_voice {w a x : Int} (hw : WfS s) : WfS (o_voice s w a x).1 := by
  unfold o_voice
  split
  · exact ⟨hw.1, hw.2.1, hw.2.2.1, hw.2.2.2.1, vF_b 7 _ _ _ (by show 0 ≤ (0 : Int) ∧ (0 : Int) ≤ 40; decide)⟩
  · exact hw.fnd
theorem bd_a {k a : Int} (h : 0 ≤ k ∧ k ≤ 5) (ha : 0 ≤ a ∧ a ≤ 3) : isB (bd k a) ∧ lvl (bd k a) ≤ 7 := by
  obtain ⟨l, z⟩ := bd_l h
  rcases a4 ha with y | y | y | y <;> subst y
  · exact ⟨z.1, by omega⟩
  · exact ⟨z.2.1, by omega⟩
  · exact ⟨z.2.2.1, by omega⟩
  · exact ⟨z.2.2.2, by omega⟩
theorem c_voice {w a x : Int} (hw : WfS s) (h : CI s M) (hq : ∀ M', CI (o_voice s w a x).1 M' → FrC M M' → Q M' (some (vI (o_voice s w a x).2))) : Wq 52 0 0 mD_voice 0 [iR 0, iI w, iI a, iI x] [] M Q := by
  have dW := h.2.1.2.2.1
  have ww := hw.1.2.2.1
  have h2 := ww.1
  refine B_D_voice_0 h.1 ?_
  rw [dW.1]
  refine ⟨fun c => ⟨fun c2 => ⟨by omega, ?_⟩, fun c2 => c_fnd h (by decide) (by decide) (by decide) (if_neg (fun z => c2 z.2)) hq⟩, fun c => c_fnd h (by decide) (by decide) (by decide) (if_neg (fun z => c z.1)) hq⟩
  rw [show o_voice s w a x = _ from if_pos ⟨c, c2⟩] at hq
  obtain ⟨e1, e2, e3⟩ := dW.2 w c.1 c.2
  have K0 := (ww.2 w c.1 c.2).1
  have ba := bd_a K0 c2
  rw [e1, e3]
  refine B_V_begin_0 ?_
  generalize hM1 : sI (sI (sI (sI M 66 1 0) 66 2 (sn s (10 + 3 * w))) 66 3 w) 66 4 (sn s (12 + 3 * w)) = M1
  have r1 : RefOK M1 := by rw [← hM1]; exact h.1
  have o1 : ∀ b : Nat, b ≠ 66 → gI M1 b = gI M b := fun b hb => by rw [← hM1, gI_ot hb, gI_ot hb, gI_ot hb, gI_ot hb]
  have l1 : gL M1 = gL M := by rw [← hM1]; rfl
  have q1 : gI M1 66 1 = 0 := by rw [← hM1, gI_up, up_n (by decide), gI_up, up_n (by decide), gI_up, up_n (by decide), gI_up, up_s]
  have q2 : gI M1 66 2 = sn s (10 + 3 * w) := by rw [← hM1, gI_up, up_n (by decide), gI_up, up_n (by decide), gI_up, up_s]
  have q3 : gI M1 66 3 = w := by rw [← hM1, gI_up, up_n (by decide), gI_up, up_s]
  have q4 : gI M1 66 4 = sn s (12 + 3 * w) := by rw [← hM1, gI_up, up_s]
  have tb : tbC M1 := ⟨fun k a p q r s => by rw [o1 1002 (by decide)]; exact h.tb.1 k a p q r s, fun k p q => by rw [o1 1001 (by decide)]; exact h.tb.2 k p q⟩
  have T0 : CT M1 (str s, 0) M1 := ⟨r1, fun _ _ _ => rfl, rfl, fun _ _ => rfl, q1, fun i i0 i1 => by have i1 : i < 0 := i1; omega, ⟨Int.le_refl _, by show (0 : Int) ≤ 40; decide⟩⟩
  refine callC (e := 47) (R := CT M1 (voR s w a x).1) (val := (voR s w a x).2) tb K0 c2 (fun Q2 g2 => spkC tb K0 q2 q3 q4 7 46 (bd (sn s (10 + 3 * w)) a) x 0 (str s, 0) M1 Q2 T0 ba.1 ba.2 (by omega) (by omega) g2) (fun M2 g => B_V_begin_33 (B_D_voice_64 ?_))
  obtain ⟨t0, t1, t2, t3, t4, t5, t6⟩ := g
  have k : ∀ b : Nat, b ≠ 66 → b ≠ 67 → gI M2 b = gI M b := fun b b1 b2 => (t1 b b1 b2).trans (o1 b b1)
  have l : gL M2 = gL M := t2.trans l1
  refine hq M2 ?_ (fun a i q => by rw [k a (by omega) (by omega)])
  have hc := h
  unfold CI site0 site1 shR at hc ⊢
  simp only [l, k 0 (by decide) (by decide), k 1 (by decide) (by decide), k 2 (by decide) (by decide), k 4 (by decide) (by decide), k 5 (by decide) (by decide), k 6 (by decide) (by decide), k 7 (by decide) (by decide), k 8 (by decide) (by decide), k 9 (by decide) (by decide), k 10 (by decide) (by decide), k 11 (by decide) (by decide), k 12 (by decide) (by decide), k 13 (by decide) (by decide), k 14 (by decide) (by decide), k 15 (by decide) (by decide), k 16 (by decide) (by decide), k 17 (by decide) (by decide), k 18 (by decide) (by decide), k 19 (by decide) (by decide), k 20 (by decide) (by decide), k 21 (by decide) (by decide), k 22 (by decide) (by decide), k 23 (by decide) (by decide), k 24 (by decide) (by decide), k 25 (by decide) (by decide), k 26 (by decide) (by decide), k 27 (by decide) (by decide), k 28 (by decide) (by decide), k 29 (by decide) (by decide), k 30 (by decide) (by decide), k 31 (by decide) (by decide), k 33 (by decide) (by decide), k 34 (by decide) (by decide), k 35 (by decide) (by decide), k 36 (by decide) (by decide), k 37 (by decide) (by decide), k 38 (by decide) (by decide), k 39 (by decide) (by decide), k 40 (by decide) (by decide), k 41 (by decide) (by decide), k 42 (by decide) (by decide), k 43 (by decide) (by decide), k 44 (by decide) (by decide), k 45 (by decide) (by decide), k 46 (by decide) (by decide), k 47 (by decide) (by decide), k 48 (by decide) (by decide), k 49 (by decide) (by decide), k 50 (by decide) (by decide), k 51 (by decide) (by decide), k 52 (by decide) (by decide), k 53 (by decide) (by decide), k 54 (by decide) (by decide), k 55 (by decide) (by decide), k 56 (by decide) (by decide), k 57 (by decide) (by decide), k 58 (by decide) (by decide), k 69 (by decide) (by decide), k 72 (by decide) (by decide), k 73 (by decide) (by decide), k 74 (by decide) (by decide), k 75 (by decide) (by decide), k 76 (by decide) (by decide), k 77 (by decide) (by decide), k 78 (by decide) (by decide), k 79 (by decide) (by decide), k 1001 (by decide) (by decide), k 1002 (by decide) (by decide)] at ⊢
  exact ⟨t0, hc.2.1, hc.2.2.1, hc.2.2.2.1, hc.2.2.2.2.1, hc.2.2.2.2.2.1, ⟨t4, t5⟩, hc.2.2.2.2.2.2.2⟩
/-! the reference -/
def RT (M0 : Mm) (T : Tr) (M : Mm) : Prop := RefOK M ∧ (∀ b : Nat, b ≠ 80 → b ≠ 87 → gI M b = gI M0 b) ∧ gL M = gL M0 ∧ (∀ y, y ≠ 8 → gI M 80 y = gI M0 80 y) ∧ gI M 80 8 = T.2 ∧ gI M 87 = T.1 ∧ (0 ≤ T.2 ∧ T.2 ≤ 40)
theorem sp_began {M0 : Mm} {T : Tr} {b : Int} (h : RT M0 T M) (hq : ∀ M', RT M0 (bgn b T) M' → Q M' none) : Wq 1 0 0 mM_began 0 [iR 80, iI b] [] M Q := by
  have h' := h
  obtain ⟨g0, g1, g2, g3, g4, g5, g6⟩ := h
  unfold bgn at hq
  refine B_M_began_0 g0 ?_
  rw [g4]
  refine ⟨fun z => ?_, fun z => ⟨by omega, ?_⟩⟩
  · rw [if_pos z] at hq
    exact hq M h'
  · rw [if_neg z] at hq
    exact hq _ ⟨g0, fun b b1 b2 => by rw [gI_ot b1, gI_ot b2]; exact g1 b b1 b2, g2, fun y hy => by rw [gI_up, up_n hy, gI_ot (by decide)]; exact g3 y hy, by rw [gI_up, up_s], by rw [gI_ot (by decide), gI_up, g5], by show 0 ≤ T.2 + 1 ∧ T.2 + 1 ≤ 40; omega⟩
theorem sp_hasOwn {k a : Int} (k0 : 0 ≤ k ∧ k ≤ 5) (a0 : 0 ≤ a ∧ a ≤ 3) (hy : bt k a ≠ 0 → Q M (some (vI 1))) (hn : bt k a = 0 → Q M (some (vI 0))) : Wq 1 0 0 mM_hasOwn 0 [iI k, iI a] [] M Q := by
  refine B_M_hasOwn_0 ?_
  rcases k6 k0 with z | z | z | z | z | z <;> rcases a4 a0 with y | y | y | y <;> subst z <;> subst y <;> repeat' (first | exact hy (by decide) | exact hn (by decide) | omega | apply And.intro | intro _)
theorem fromR {R : Mm → Prop} {e : Nat} {k a x val : Int} (k0 : 0 ≤ k ∧ k ≤ 5) (a0 : 0 ≤ a ∧ a ≤ 3) (S : ∀ k', (0 ≤ k' ∧ k' ≤ 5) → bt k' a = bd k a → ∀ Q1 : Mm → Option Mv → Prop, (∀ M', R M' → Q1 M' (some (vI val))) → Wq (e + 2) 0 0 mM_body 0 [iR 80, iI k', iI a, iI x, none, none] [] M Q1) (hq : ∀ M', R M' → Q M' (some (vI val))) : Wq (e + 3) 0 0 mM_bodyFrom 0 [iR 80, iI k, iI a, iI x, none] [] M Q := by
  have go : ∀ k' : Int, (0 ≤ k' ∧ k' ≤ 5) → bt k' a ≠ 0 → bd k a = bt k' a → Wq (e + 3) 0 0 mM_bodyFrom 3 [iR 80, iI k, iI a, iI x, iI k'] [] M Q := fun k' h0 nz eb => B_M_bodyFrom_3 (sp_hasOwn h0 a0 (fun _ => B_M_bodyFrom_9 ⟨fun _ => S k' h0 eb.symm _ (fun M' h' => B_M_bodyFrom_30 (hq M' h')), fun z => absurd z (by decide)⟩) (fun z => absurd z nz))
  have sk : ∀ k' : Int, (0 ≤ k' ∧ k' ≤ 5) → bt k' a = 0 → Wq (e + 3) 0 0 mM_bodyFrom 3 [iR 80, iI k, iI a, iI x, iI (aboveF k')] [] M Q → Wq (e + 3) 0 0 mM_bodyFrom 3 [iR 80, iI k, iI a, iI x, iI k'] [] M Q := fun k' h0 z nx => B_M_bodyFrom_3 (sp_hasOwn h0 a0 (fun y => absurd z y) (fun _ => B_M_bodyFrom_9 ⟨fun y => absurd rfl y, fun _ => nx⟩))
  have z0 := bt_0 a0
  refine B_M_bodyFrom_0 ?_
  by_cases c1 : bt k a ≠ 0
  · exact go k k0 c1 (if_pos c1)
  · have c1' : bt k a = 0 := Classical.not_not.1 c1
    refine sk k k0 c1' ?_
    by_cases c2 : k = 3 ∨ k = 5
    · have e2 : aboveF k = 2 := if_pos c2
      rw [e2]
      by_cases c3 : bt 2 a ≠ 0
      · exact go 2 (by decide) c3 ((if_neg c1).trans ((if_pos c2).trans (if_pos c3)))
      · refine sk 2 (by decide) (Classical.not_not.1 c3) ?_
        exact go 0 (by decide) z0 ((if_neg c1).trans ((if_pos c2).trans (if_neg c3)))
    · have hk : k ≠ 0 := fun z => z0 (z ▸ c1')
      have e2 : aboveF k = 0 := (if_neg c2).trans (if_neg hk)
      rw [e2]
      exact go 0 (by decide) z0 ((if_neg c1).trans (if_neg c2))
theorem spkR {K N F : Int} {M0 : Mm} (K0 : 0 ≤ K ∧ K ≤ 5) (N0 : 0 ≤ N ∧ N < 16) (e2 : gI M0 80 24 = N) (e3 : gI M0 81 (10 + 3 * N) = K) (e4 : gI M0 81 (12 + 3 * N) = F) : ∀ (f d : Nat) (k a x : Int) (T : Tr) (M : Mm) (Q : Mm → Option Mv → Prop), RT M0 T M → (0 ≤ k ∧ k ≤ 5) → (0 ≤ a ∧ a ≤ 3) → isB (bt k a) → lvl (bt k a) ≤ f → 3 * lvl (bt k a) ≤ d + 3 → (∀ M', RT M0 (vF K N F f (bt k a) x T).1 M' → Q M' (some (vI (vF K N F f (bt k a) x T).2))) → Wq (d + 3) 0 0 mM_body 0 [iR 80, iI k, iI a, iI x, none, none] [] M Q := by
  intro f
  induction f with
  | zero =>
    intro d k a x T M Q h k0 a0 b0 hl
    have := lvl_1 (bt k a)
    omega
  | succ f ih =>
    intro d k a x T M Q h k0 a0 b0 hl hd hq
    obtain ⟨kl, kz⟩ := bd_l K0
    have l0 := (bd_l (k := 0) (by decide)).1
    have z0 := (bd_l (k := 0) (by decide)).2
    have l2 := (bd_l (k := 2) (by decide)).1
    have z2 := (bd_l (k := 2) (by decide)).2
    have lb := lvl_1 (bt k a)
    have f2 : ∀ {T' M2}, RT M0 T' M2 → gI M2 80 24 = N := fun g => (g.2.2.2.1 24 (by decide)).trans e2
    have f3 : ∀ {T' M2}, RT M0 T' M2 → gI M2 81 (10 + 3 * N) = K := fun g => by rw [g.2.1 81 (by decide) (by decide)]; exact e3
    have f4 : ∀ {T' M2}, RT M0 T' M2 → gI M2 81 (12 + 3 * N) = F := fun g => by rw [g.2.1 81 (by decide) (by decide)]; exact e4
    unfold vF at hq
    dsimp only at hq
    have fr : ∀ (e : Nat) (k' a' x' : Int) (T' : Tr) (M1 : Mm) (Q1 : Mm → Option Mv → Prop), RT M0 T' M1 → (0 ≤ k' ∧ k' ≤ 5) → (0 ≤ a' ∧ a' ≤ 3) → isB (bd k' a') → lvl (bd k' a') + 1 ≤ lvl (bt k a) → 3 * lvl (bt k a) - 2 ≤ e + 3 → (∀ M', RT M0 (vF K N F f (bd k' a') x' T').1 M' → Q1 M' (some (vI (vF K N F f (bd k' a') x' T').2))) → Wq (e + 3) 0 0 mM_bodyFrom 0 [iR 80, iI k', iI a', iI x', none] [] M1 Q1 := by
      intro e k' a' x' T' M1 Q1 h1 k1 a1 nz hlv he q1
      have l1 := lvl_1 (bd k' a')
      obtain ⟨e, rfl⟩ : ∃ e', e = e' + 1 := ⟨e - 1, by omega⟩
      refine fromR (e := e + 1) (R := RT M0 (vF K N F f (bd k' a') x' T').1) k1 a1 (fun k2 h2 eb Q2 q2 => ?_) q1
      rw [← eb] at nz hlv q2
      exact ih e k2 a' x' T' M1 Q2 h1 h2 a1 nz (by omega) (by omega) q2
    have fr0 : ∀ (k' a' x' : Int) (T' : Tr) (M1 : Mm) (Q1 : Mm → Option Mv → Prop), RT M0 T' M1 → (0 ≤ k' ∧ k' ≤ 5) → (0 ≤ a' ∧ a' ≤ 3) → isB (bd k' a') → lvl (bd k' a') + 1 ≤ lvl (bt k a) → (∀ M', RT M0 (vF K N F f (bd k' a') x' T').1 M' → Q1 M' (some (vI (vF K N F f (bd k' a') x' T').2))) → Wq (d + 2) 0 0 mM_bodyFrom 0 [iR 80, iI k', iI a', iI x', none] [] M1 Q1 := by
      intro k' a' x' T' M1 Q1 h1 k1 a1 nz hlv q1
      have l1 := lvl_1 (bd k' a')
      obtain ⟨e, he⟩ : ∃ e, d = e + 1 := ⟨d - 1, by omega⟩
      rw [he]
      exact fr e k' a' x' T' M1 Q1 h1 k1 a1 nz hlv (by omega) q1
    have vo : ∀ (a' x' : Int) (T' : Tr) (M1 : Mm) (Q1 : Mm → Option Mv → Prop), RT M0 T' M1 → (0 ≤ a' ∧ a' ≤ 3) → isB (bd K a') → lvl (bd K a') + 1 ≤ lvl (bt k a) → (∀ M', RT M0 (vF K N F f (bd K a') x' T').1 M' → Q1 M' (some (vI (vF K N F f (bd K a') x' T').2))) → Wq (d + 2) 0 0 mM_voiced 0 [iR 80, iI a', iI x'] [] M1 Q1 := by
      intro a' x' T' M1 Q1 h1 a1 nz hlv q1
      have l1 := lvl_1 (bd K a')
      obtain ⟨e, he⟩ : ∃ e, d = e + 2 := ⟨d - 2, by omega⟩
      rw [he]
      refine B_M_voiced_0 (d := e + 1) h1.1 ?_
      rw [f2 h1, f3 h1]
      exact ⟨by omega, fr e K a' x' T' M1 _ h1 K0 a1 nz hlv (by omega) (fun M2 h2 => B_M_voiced_14 (q1 M2 h2))⟩
    refine B_M_body_0 h.1 ?_
    rw [f2 h, wr_eq (x := 3 * N) (by omega) (by omega), wr_eq (x := 10 + 3 * N) (by omega) (by omega), wr_eq (x := 10 + 3 * N + 2) (by omega) (by omega), show 10 + 3 * N + 2 = 12 + 3 * N by omega, f4 h, wr_eq (x := 4 * k) (by omega) (by omega), wr_eq (x := 4 * k + a) (by omega) (by omega)]
    refine ⟨by omega, fun y => ?_, fun y => ?_, fun y => ?_, fun y => ?_, fun y => ?_, fun y => ?_, fun y => ?_, fun y => ?_, fun y => ?_, fun y => ?_, fun y => ?_, fun y => ?_⟩
    · have z : bt k a = 10 := by
        show btc (4 * k + a) = _
        rw [y]
        rfl
      rw [if_pos z] at hq
      rw [z] at hq
      refine sp_began h (fun M1 h1 => B_M_body_134 ?_)
      exact hq M1 h1
    · have z : bt k a = 11 := by
        show btc (4 * k + a) = _
        rw [y]
        rfl
      rw [if_neg (by omega), if_pos z] at hq
      rw [z] at hq
      refine sp_began h (fun M1 h1 => B_M_body_145 ?_)
      have eb : lvl (bt k a) = 4 := by rw [z]; decide
      refine vo 0 x _ M1 _ h1 (by decide) kz.1 (by omega) (fun M2 h2 => B_M_body_151 ?_)
      exact hq M2 h2
    · have z : bt k a = 12 := by
        show btc (4 * k + a) = _
        rw [y]
        rfl
      rw [if_neg (by omega), if_neg (by omega), if_pos z] at hq
      rw [z] at hq
      refine sp_began h (fun M1 h1 => B_M_body_160 ?_)
      rw [f2 h1]
      exact hq M1 h1
    · have z : bt k a = 13 := by
        show btc (4 * k + a) = _
        rw [y]
        rfl
      rw [if_neg (by omega), if_neg (by omega), if_neg (by omega), if_pos z] at hq
      rw [z] at hq
      refine sp_began h (fun M1 h1 => B_M_body_173 ?_)
      have eb : lvl (bt k a) = 6 := by rw [z]; decide
      refine vo 1 x _ M1 _ h1 (by decide) kz.2.1 (by omega) (fun M2 h2 => B_M_body_179 ?_)
      exact vo 2 x _ M2 _ h2 (by decide) kz.2.2.1 (by omega) (fun M3 h3 => B_M_body_189 (hq M3 h3))
    · have z : bt k a = 20 := by
        show btc (4 * k + a) = _
        rw [y]
        rfl
      rw [if_neg (by omega), if_neg (by omega), if_neg (by omega), if_neg (by omega), if_pos z] at hq
      rw [z] at hq
      refine sp_began h (fun M1 h1 => B_M_body_197 ?_)
      have eb : lvl (bt k a) = 5 := by rw [z]; decide
      refine fr0 0 1 x _ M1 _ h1 (by decide) (by decide) z0.2.1 (by rw [bd_k.2.1, eb]; decide) (fun M2 h2 => B_M_body_204 ?_)
      exact vo 2 x _ M2 _ h2 (by decide) kz.2.2.1 (by omega) (fun M3 h3 => B_M_body_214 (hq M3 h3))
    · have z : bt k a = 30 := by
        show btc (4 * k + a) = _
        rw [y]
        rfl
      rw [if_neg (by omega), if_neg (by omega), if_neg (by omega), if_neg (by omega), if_neg (by omega), if_pos z] at hq
      rw [z] at hq
      refine sp_began h (fun M1 h1 => B_M_body_222 ?_)
      have eb : lvl (bt k a) = 2 := by rw [z]; decide
      refine fr0 0 0 x _ M1 _ h1 (by decide) (by decide) z0.1 (by rw [bd_k.1, eb]; decide) (fun M2 h2 => B_M_body_229 ?_)
      rw [f2 h2]
      exact hq M2 h2
    · have z : bt k a = 31 := by
        show btc (4 * k + a) = _
        rw [y]
        rfl
      rw [if_neg (by omega), if_neg (by omega), if_neg (by omega), if_neg (by omega), if_neg (by omega), if_neg (by omega), if_pos z] at hq
      rw [z] at hq
      refine sp_began h (fun M1 h1 => B_M_body_241 ?_)
      have eb : lvl (bt k a) = 7 := by rw [z]; decide
      refine fr0 0 3 (wr (x + 1)) _ M1 _ h1 (by decide) (by decide) z0.2.2.2 (by rw [bd_k.2.2.1, eb]; decide) (fun M2 h2 => B_M_body_250 ?_)
      exact hq M2 h2
    · have z : bt k a = 41 := by
        show btc (4 * k + a) = _
        rw [y]
        rfl
      rw [if_neg (by omega), if_neg (by omega), if_neg (by omega), if_neg (by omega), if_neg (by omega), if_neg (by omega), if_neg (by omega), if_neg (by omega), if_pos z] at hq
      rw [z] at hq
      refine sp_began h (fun M1 h1 => B_M_body_273 ?_)
      have eb : lvl (bt k a) = 3 := by rw [z]; decide
      refine fr0 2 0 (wr (x - F)) _ M1 _ h1 (by decide) (by decide) z2.1 (by rw [bd_k.2.2.2.2.1, eb]; decide) (fun M2 h2 => B_M_body_283 ?_)
      exact hq M2 h2
    · have z : bt k a = 40 := by
        show btc (4 * k + a) = _
        rw [y]
        rfl
      rw [if_neg (by omega), if_neg (by omega), if_neg (by omega), if_neg (by omega), if_neg (by omega), if_neg (by omega), if_neg (by omega), if_pos z] at hq
      rw [z] at hq
      refine sp_began h (fun M1 h1 => B_M_body_257 ?_)
      have eb : lvl (bt k a) = 2 := by rw [z]; decide
      refine fr0 2 2 x _ M1 _ h1 (by decide) (by decide) z2.2.2.1 (by rw [bd_k.2.2.2.1, eb]; decide) (fun M2 h2 => B_M_body_264 ?_)
      exact hq M2 h2
    · have z : bt k a = 50 := by
        show btc (4 * k + a) = _
        rw [y]
        rfl
      rw [if_neg (by omega), if_neg (by omega), if_neg (by omega), if_neg (by omega), if_neg (by omega), if_neg (by omega), if_neg (by omega), if_neg (by omega), if_neg (by omega), if_pos z] at hq
      rw [z] at hq
      refine sp_began h (fun M1 h1 => B_M_body_290 ?_)
      have eb : lvl (bt k a) = 7 := by rw [z]; decide
      refine vo 2 x _ M1 _ h1 (by decide) kz.2.2.1 (by omega) (fun M2 h2 => B_M_body_296 ?_)
      exact fr0 0 3 x _ M2 _ h2 (by decide) (by decide) z0.2.2.2 (by rw [bd_k.2.2.1, eb]; decide) (fun M3 h3 => B_M_body_307 (hq M3 h3))
    · have z : bt k a = 60 := by
        show btc (4 * k + a) = _
        rw [y]
        rfl
      rw [if_neg (by omega), if_neg (by omega), if_neg (by omega), if_neg (by omega), if_neg (by omega), if_neg (by omega), if_neg (by omega), if_neg (by omega), if_neg (by omega), if_neg (by omega), if_pos z] at hq
      rw [z] at hq
      refine sp_began h (fun M1 h1 => B_M_body_315 ?_)
      have eb : lvl (bt k a) = 2 := by rw [z]; decide
      rw [f2 h1]
      refine fr0 2 2 (wr (x + N)) _ M1 _ h1 (by decide) (by decide) z2.2.2.1 (by rw [bd_k.2.2.2.1, eb]; decide) (fun M2 h2 => B_M_body_327 ?_)
      exact hq M2 h2
    · have y : 4 * k + a = 21 := by
        unfold isB bt btc at b0
        repeat' (split at b0)
        all_goals omega
      have z : bt k a = 61 := by
        show btc (4 * k + a) = _
        rw [y]
        rfl
      rw [if_neg (by omega), if_neg (by omega), if_neg (by omega), if_neg (by omega), if_neg (by omega), if_neg (by omega), if_neg (by omega), if_neg (by omega), if_neg (by omega), if_neg (by omega), if_neg (by omega), if_pos z] at hq
      rw [z] at hq
      refine sp_began h (fun M1 h1 => B_M_body_334 ?_)
      have eb : lvl (bt k a) = 5 := by rw [z]; decide
      refine fr0 2 1 x _ M1 _ h1 (by decide) (by decide) z2.2.1 (by rw [bd_k.2.2.2.2.2, eb]; decide) (fun M2 h2 => B_M_body_341 ?_)
      exact vo 0 x _ M2 _ h2 (by decide) kz.1 (by omega) (fun M3 h3 => B_M_body_351 (hq M3 h3))
theorem r_voice {w a x : Int} (hw : WfS s) (h : RI s M) (hq : ∀ M', RI (o_voice s w a x).1 M' → FrR M M' → Q M' (some (vI (o_voice s w a x).2))) : Wq 51 0 0 mM_voice 0 [iR 80, iI w, iI a, iI x] [] M Q := by
  have e' := h.2.1
  have ww := hw.1.2.2.1
  have h2 := ww.1
  refine B_M_voice_0 h.1 ?_
  rw [e']
  refine ⟨by omega, fun c => ⟨fun c2 => ?_, fun c2 => r_fnd h (by decide) (if_neg (fun z => c2 z.2)) hq⟩, fun c => r_fnd h (by decide) (if_neg (fun z => c z.1)) hq⟩
  rw [show o_voice s w a x = _ from if_pos ⟨c, c2⟩] at hq
  have K0 := (ww.2 w c.1 c.2).1
  have ba := bd_a K0 c2
  generalize hM1 : sI (sI M 80 8 0) 80 24 w = M1
  have r1 : RefOK M1 := by rw [← hM1]; exact h.1
  have o1 : ∀ b : Nat, b ≠ 80 → gI M1 b = gI M b := fun b hb => by rw [← hM1, gI_ot hb, gI_ot hb]
  have y1 : ∀ y, y ≠ 8 → y ≠ 24 → gI M1 80 y = gI M 80 y := fun y a b => by rw [← hM1, gI_up, up_n b, gI_up, up_n a]
  have l1 : gL M1 = gL M := by rw [← hM1]; rfl
  have q8 : gI M1 80 8 = 0 := by rw [← hM1, gI_up, up_n (by decide), gI_up, up_s]
  have q24 : gI M1 80 24 = w := by rw [← hM1, gI_up, up_s]
  have q81 : gI M1 81 = sn s := (o1 81 (by decide)).trans e'
  have T0 : RT M1 (str s, 0) M1 := ⟨r1, fun _ _ _ => rfl, rfl, fun _ _ => rfl, q8, (o1 87 (by decide)).trans h.2.2.2.2.2.2.2.2.1, ⟨Int.le_refl _, by show (0 : Int) ≤ 40; decide⟩⟩
  refine B_M_voiced_0 (d := 47) r1 ?_
  rw [q24, q81]
  refine ⟨by omega, fromR (e := 46) (R := RT M1 (voR s w a x).1) (val := (voR s w a x).2) K0 c2 (fun k2 h2' eb Q2 q2 => ?_) (fun M2 g => B_M_voiced_14 (B_M_voice_44 ?_))⟩
  · unfold voR at q2
    rw [← eb] at q2 ba
    exact spkR (K := sn s (10 + 3 * w)) (N := w) (F := sn s (12 + 3 * w)) K0 ⟨c.1, by omega⟩ q24 (by rw [q81]) (by rw [q81]) 7 45 k2 a x (str s, 0) M1 Q2 T0 h2' c2 ba.1 ba.2 (by omega) q2
  · obtain ⟨t0, t1, t2, t3, t4, t5, t6⟩ := g
    have k : ∀ b : Nat, b ≠ 80 → b ≠ 87 → gI M2 b = gI M b := fun b b1 b2 => (t1 b b1 b2).trans (o1 b b1)
    obtain ⟨g1, g2, g3, g4, g5, g6, g7, g8, g9, g10, g11⟩ := h
    refine hq M2 ⟨t0, (k 81 (by decide) (by decide)).trans g2, (k 82 (by decide) (by decide)).trans g3, (t3 2 (by decide)).trans ((y1 2 (by decide) (by decide)).trans g4), (k 83 (by decide) (by decide)).trans g5, (k 84 (by decide) (by decide)).trans g6, (k 85 (by decide) (by decide)).trans g7, (k 86 (by decide) (by decide)).trans g8, t5, t4, ?_⟩ (fun a i q => ⟨by rw [k a (by omega) (by omega)], by rw [t2, l1]⟩)
    unfold rCac at g11 ⊢
    rw [t3 13 (by decide), y1 13 (by decide) (by decide), k 91 (by decide) (by decide), k 92 (by decide) (by decide)]
    exact g11
end VOI
