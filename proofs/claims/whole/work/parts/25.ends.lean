/-! ===== days, ends, floats, as numbers ===== -/
/-- working days without rain ahead of day k -/
def dcn (n : Int → Int) : Nat → Int
  | 0 => 0
  | k + 1 => dcn n k + (if wkd n k = true ∧ n (1033 + (k : Int)) ≠ 1 then 1 else 0)
/-- days of rain ahead of day k -/
def rsm (n : Int → Int) : Nat → Int
  | 0 => 0
  | k + 1 => rsm n k + n (1033 + (k : Int))
/-- how many days a week has -/
def pc7 (x : Int) : Nat → Int
  | 0 => 0
  | k + 1 => pc7 x k + (if hb x k = true then 1 else 0)
/-- whether bit d of a row of longs is set -/
def wb (wet : Int → Int) (d : Int) : Bool := (Int64.ofInt (wet (d / 64))).toBitVec.getLsbD (d % 64).toNat
/-- whether a work of a kind goes on on a day -/
def goe (n : Int → Int) (kd d : Int) : Bool := decide (kd = 4 ∨ kd = 5 ∨ (wkd n d = true ∧ (kd ≠ 1 ∨ ¬ (d < 900 ∧ n (1033 + d) = 1))))
/-- the day at which 'left' days on which it goes on are behind it, from 'day' on -/
def cE (n : Int → Int) (kd : Int) : Nat → Int → Int → Int
  | 0, _, day => day
  | f + 1, left, day => if left ≤ 0 then day else cE n kd f (if goe n kd day = true then left - 1 else left) (day + 1)
def cEnd (n : Int → Int) (kd frm days : Int) : Int := if kd = 4 ∨ kd = 5 then frm + max 0 days else cE n kd (7 * days + 7000).toNat days frm
/-- READY of w, by ends e, out of the first j links -/
def rdy (n : Int → Int) (e : Int → Int) (w : Int) : Nat → Int
  | 0 => 0
  | j + 1 => if n (59 + 3 * (j : Int)) = w then max (rdy n e w j) (e (n (58 + 3 * (j : Int))) + n (60 + 3 * (j : Int))) else rdy n e w j
/-- ENDS, for works that need nd days, k links deep -/
def eK (n : Int → Int) (nd : Int → Int) : Nat → Int → Int
  | 0, _ => 0
  | k + 1, w => cEnd n (n (10 + 3 * w)) (rdy n (eK n nd k) w (n 3).toNat) (nd w)
def eW (n : Int → Int) (nd : Int → Int) (w : Int) : Int := eK n nd (17 + (n 2).toNat) w
def rW (n : Int → Int) (nd : Int → Int) (w : Int) : Int := rdy n (eW n nd) w (n 3).toNat
def mxE (e : Int → Int) : Nat → Int
  | 0 => 0
  | k + 1 => max (mxE e k) (e k)
/-- THE END -/
def eA (n : Int → Int) (nd : Int → Int) : Int := mxE (eW n nd) (n 2).toNat
/-- the days that the first j EVENTS of a set make it more -/
def mrs (n : Int → Int) (st : Int) (w : Int) : Nat → Int
  | 0 => 0
  | j + 1 => mrs n st w j + (if n (148 + 7 * (j : Int)) = w ∧ hb st j = true then n (151 + 7 * (j : Int)) else 0)
/-- how many days the works need, with the EVENTS of a set -/
def nds (n : Int → Int) (st : Int) (w : Int) : Int := n (11 + 3 * w) + mrs n st w (n 4).toNat
/-- THE END of a set of EVENTS -/
def eS (n : Int → Int) (st : Int) : Int := eA n (nds n st)
/-- FLOAT, by halving: the greatest m up to 99 with which THE END is as it is -/
def fl (n : Int → Int) (nd : Int → Int) (w : Int) : Nat → Int → Int → Int
  | 0, lo, _ => lo
  | f + 1, lo, hi => if hi - lo ≤ 1 then lo else if eA n (up nd w (nd w + (lo + hi) / 2)) = eA n nd then fl n nd w f ((lo + hi) / 2) hi else fl n nd w f lo ((lo + hi) / 2)
def flt (n : Int → Int) (st w : Int) : Int := fl n (nds n st) w 100 0 100
/-- an order of the works in which no one stands ahead of one that has a link to it -/
def topo (n : Int → Int) (od : Int → Int) : Prop := (∀ p, 0 ≤ p → p < n 2 → 0 ≤ od p ∧ od p < n 2) ∧ (∀ p q, 0 ≤ p → p < n 2 → 0 ≤ q → q < n 2 → od p = od q → p = q) ∧ ∀ p q, 0 ≤ p → p < n 2 → 0 ≤ q → q < n 2 → lnk n (od p) (od q) → p < q
/-! ===== texts ===== -/
/-- where, how many are open, whether it is at fault, the code so far -/
abbrev PS : Type := Int × Int × Bool × List Int
def pHere (t : Int → Int) (len : Int) (s : PS) : Int := if s.2.2.1 = false ∧ s.1 < len then t s.1 else -1
def pPut (c : Int) (s : PS) : PS := if s.2.2.1 = true then s else (s.1, s.2.1, s.2.2.1, s.2.2.2 ++ [c])
def pAdv (s : PS) : PS := (s.1 + 1, s.2)
def pFlt (s : PS) : PS := (s.1, s.2.1, true, s.2.2.2)
def pOp (d : Int) (s : PS) : PS := (s.1, s.2.1 + d, s.2.2)
def tru (p : Prop) [Decidable p] : Int := if p then 1 else 0
def pNum (t : Int → Int) (len : Int) : Nat → Int → PS → PS × Int
  | 0, v, s => (s, v)
  | k + 1, v, s => if 48 ≤ pHere t len s ∧ pHere t len s ≤ 57 then pNum t len k (10 * v + pHere t len s - 48) (pAdv s) else (s, v)
def nameF (c : Int) : Int := if c = 99 then 0 else if c = 100 then 1 else if c = 107 then 2 else if c = 110 then 3 else if c = 116 then 4 else if c = 102 then 5 else -1
def dvd (a b : Int) : Int := if b = 0 then 0 else wr (Int.tdiv a b)
/-- the reader, with what the names stand for: 0 T, 1 A, 2 B, 3 S, 4 P, 5 Q; 6 .. 9 what goes on behind the first of T, A, S, P -/
def pP (t : Int → Int) (len : Int) (nu : Int → Int) : Nat → Nat → PS × Int → PS × Int
  | 0, _, x => x
  | f + 1, 0, x => pP t len nu f 6 (pP t len nu f 1 x)
  | f + 1, 1, x => pP t len nu f 7 (pP t len nu f 2 x)
  | f + 1, 2, x =>
    let r := pP t len nu f 3 x
    let c := pHere t len r.1
    if c = 60 ∨ c = 61 ∨ c = 62 then
      let q := pP t len nu f 3 (pAdv r.1, 0)
      (pPut (if c = 60 then 20002 else if c = 61 then 20003 else 20004) q.1, if c = 60 then tru (r.2 < q.2) else if c = 61 then tru (r.2 = q.2) else tru (q.2 < r.2))
    else r
  | f + 1, 3, x => pP t len nu f 8 (pP t len nu f 4 x)
  | f + 1, 4, x => pP t len nu f 9 (pP t len nu f 5 x)
  | f + 1, 5, x =>
    let c := pHere t len x.1
    if c = 33 then
      if x.1.2.1 = 5 then (pFlt x.1, 0)
      else
        let r := pP t len nu f 5 (pAdv (pOp 1 x.1), 0)
        (pPut 20009 (pOp (-1) r.1), tru (r.2 = 0))
    else if c = 40 then
      if x.1.2.1 = 5 then (pFlt x.1, 0)
      else
        let r := pP t len nu f 0 (pAdv (pOp 1 x.1), 0)
        let s := pOp (-1) r.1
        if pHere t len s = 41 then (pAdv s, r.2) else (pFlt s, r.2)
    else if 48 ≤ c ∧ c ≤ 57 then
      let r := pNum t len 4 0 x.1
      (pPut r.2 r.1, r.2)
    else if nameF c < 0 then (pFlt x.1, 0)
    else (pAdv (pPut (10000 + nameF c) x.1), nu (nameF c))
  | f + 1, 6, x =>
    if pHere t len x.1 = 124 then
      let r := pP t len nu f 1 (pAdv x.1, 0)
      pP t len nu f 6 (pPut 20000 r.1, tru (x.2 ≠ 0 ∨ r.2 ≠ 0))
    else x
  | f + 1, 7, x =>
    if pHere t len x.1 = 38 then
      let r := pP t len nu f 2 (pAdv x.1, 0)
      pP t len nu f 7 (pPut 20001 r.1, tru (x.2 ≠ 0 ∧ r.2 ≠ 0))
    else x
  | f + 1, 8, x =>
    let c := pHere t len x.1
    if c = 43 ∨ c = 45 then
      let r := pP t len nu f 4 (pAdv x.1, 0)
      pP t len nu f 8 (pPut (if c = 43 then 20005 else 20006) r.1, if c = 43 then wr (x.2 + r.2) else wr (x.2 - r.2))
    else x
  | f + 1, 9, x =>
    let c := pHere t len x.1
    if c = 42 ∨ c = 47 then
      let r := pP t len nu f 5 (pAdv x.1, 0)
      pP t len nu f 9 (pPut (if c = 42 then 20007 else 20008) r.1, if c = 42 then wr (x.2 * r.2) else dvd x.2 r.2)
    else x
  | _ + 1, _ + 10, x => x
def pRun (t : Int → Int) (len : Int) (nu : Int → Int) : PS × Int := pP t len nu (2000 + len.toNat) 0 ((0, 0, false, []), 0)
/-- a text and its code -/
def Tx (t : Int → Int) (len : Int) (cd : Int → Int) (size : Int) : Prop := (1 ≤ len ∧ len ≤ 60) ∧ (pRun t len (fun _ => 0)).1.2.2.1 = false ∧ (pRun t len (fun _ => 0)).1.1 = len ∧ size = (pRun t len (fun _ => 0)).1.2.2.2.length ∧ ∀ k : Nat, (k : Int) < size → (pRun t len (fun _ => 0)).1.2.2.2[k]? = some (cd k)
