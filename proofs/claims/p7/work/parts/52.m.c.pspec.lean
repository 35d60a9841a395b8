/-! what a TEXT is: its meaning over the TOKENS -/
abbrev NS : Type := Nat × (Nat → Int64) × (Nat → Int64) × Bool
def nfF (k : Nat → Int64) (v : Int64) : Nat → Nat → Option Nat
  | 0, _ => none
  | d + 1, j => if k j = v then some j else nfF k v d (j + 1)
def nFind (n : NS) (v : Int64) : Option Nat := nfF n.2.1 v n.1 0
def tellS (n : NS) (v x : Int64) : NS := if (nFind n v).isSome then (n.1, n.2.1, n.2.2.1, true) else (n.1 + 1, vp_updL n.2.1 n.1 v, vp_updL n.2.2.1 n.1 x, n.2.2.2)
def noteS (n : NS) (b : Bool) : NS := (n.1, n.2.1, n.2.2.1, n.2.2.2 || b)
def kyC (x : Int32) (i : Nat) : Int64 := if 10 ≤ nI i then (((x.toInt64) <<< ((16 : Int32).toInt64 &&& 63)) ||| (((48 + (nI i / 10)).toInt64) <<< ((8 : Int32).toInt64 &&& 63))) ||| (48 + (nI i - nI i / 10 * 10)).toInt64 else ((x.toInt64) <<< ((8 : Int32).toInt64 &&& 63)) ||| (48 + (nI i - nI i / 10 * 10)).toInt64
def regF (x : Int32) (v : Int64) : Nat → Nat → Option Nat
  | 0, _ => none
  | d + 1, i => if v = kyC x i then some i else regF x v d (i + 1)
abbrev isRg (c : Int32) : Prop := c = 100 ∨ c = 97 ∨ c = 98
def inR (g : Bool) (v : Int64) : Bool := if g then decide (¬ v < 0 ∧ v ≤ 63) else decide (¬ v < (-2147483648) ∧ v ≤ 2147483647)
abbrev WS : Type := Nat × Int64 × Option Nat
section PSP
variable (K : Nat → Int32) (V : Nat → Int64)
def amA (s : Nat) : Nat := if K s = 45 then s + 1 else s
def pasS (a : Nat) : Option Nat := if K (amA K a) = 1 ∨ K (amA K a) = 2 then some (amA K a + 1) else none
def amR (n : NS) (s : Nat) : Option Int64 := if K (amA K s) = 1 then (nFind n (V (amA K s))).map n.2.2.1 else some (V (amA K s))
def amVal (n : NS) (s : Nat) : Int64 := if K s = 45 then -((amR K V n s).getD 0) else (amR K V n s).getD 0
def amBad (g : Bool) (n : NS) (s : Nat) : Bool := (amR K V n s).isNone || !(inR g (amVal K V n s))
def regS (x : Int32) (m a : Nat) : Option Nat := if K a = 1 then regF x (V a) (m + 1) 0 else none
def partS (c : Int32) (w : WS) : Option WS :=
  if c = 110 ∨ c = 116 then (pasS K w.1).map (fun b => (b, w.2.1, some w.1))
  else if shC c = (-1) then (if K w.1 = c then some (w.1 + 1, w.2.1, w.2.2) else none)
  else (regS K V (if isRg c then 114 else 112) (if isRg c then 15 else 3) w.1).map (fun i => (w.1 + 1, w.2.1 ||| ((nI i).toInt64 <<< ((shC c).toInt64 &&& 63)), w.2.2))
def partsS : List Int32 → WS → Option WS
  | [], w => some w
  | c :: cs, w => (partS K V c w).bind (partsS cs)
def labS : Nat → Nat → Int64 → NS → Nat × NS
  | 0, a, _, n => (a, n)
  | d + 1, a, x, n => if K a = 1 ∧ K (a + 1) = 58 then labS d (a + 2) x (tellS n (V a) x) else (a, n)
def grdS (a : Nat) : Option (Nat × Nat) := if K a = 64 then (if K (a + 1) = 33 then (regS K V 112 3 (a + 2)).map (fun i => (a + 3, 12 + i)) else (regS K V 112 3 (a + 1)).map (fun i => (a + 2, 8 + i))) else some (a, 0)
end PSP
def wdF (v : Int64) : Nat → Nat → Option Nat
  | 0, _ => none
  | d + 1, e => if opK e = v then some e else wdF v d (e + 1)
def wdS (v : Int64) : Option Nat := wdF v 53 0
def chX (e : Nat) : List Int32 := (List.range (lenX.getD (pxI e) 0)).map (pcX e)
def amI (o : Option Nat) : Int32 := match o with
  | none => -1
  | some s => nI s
abbrev ST : Type := Nat × Nat × (Nat → Int64) × (Nat → Option Nat) × (Nat → Nat) × NS
section PSQ
variable (K : Nat → Int32) (V : Nat → Int64)
/-- a WORD with its GUARD g, at a -/
def wrdS (g a l : Nat) : Option (Nat × WS) :=
  if K a = 1 then
    match wdS (V a) with
    | none => none
    | some e => if l < 64 then (partsS K V (chX e) (a + 1, opB e ||| ((nI g).toInt64 <<< ((20 : Int32).toInt64 &&& 63)), none)).map (fun w => (e, w)) else none
  else none
def putS (e : Nat) (w : WS) (s : ST) : ST := (w.1 + 1, s.2.1 + 1, vp_updL s.2.2.1 s.2.1 w.2.1, (fun k => if k = s.2.1 then w.2.2 else s.2.2.2.1 k), (fun k => if k = s.2.1 then e else s.2.2.2.2.1 k), s.2.2.2.2.2)
def wordS (g : Nat) (a : Nat) (s : ST) : Option ST := (wrdS K V g a s.2.1).bind (fun r => if K r.2.1 = 59 then some (putS r.1 r.2 s) else none)
def cstS (s : ST) : Option ST := (pasS K (s.1 + 2)).bind (fun b => if K b = 59 then some (b + 1, s.2.1, s.2.2.1, s.2.2.2.1, s.2.2.2.2.1, tellS (noteS s.2.2.2.2.2 (amBad K V false s.2.2.2.2.2 (s.1 + 2))) (V s.1) (amVal K V s.2.2.2.2.2 (s.1 + 2))) else none)
def stmS (s : ST) : Option ST :=
  if K s.1 = 1 ∧ K (s.1 + 1) = 61 then cstS K V s
  else
    let r := labS K V 350 s.1 (nI s.2.1).toInt64 s.2.2.2.2.2
    if K r.1 = 59 then some (r.1 + 1, s.2.1, s.2.2.1, s.2.2.2.1, s.2.2.2.2.1, r.2)
    else (grdS K V r.1).bind (fun g => wordS K V g.2 g.1 (r.1, s.2.1, s.2.2.1, s.2.2.2.1, s.2.2.2.2.1, r.2))
def prsS : Nat → ST → Option ST
  | 0, s => some s
  | d + 1, s => if K s.1 = 0 then some s else (stmS K V s).bind (prsS d)
/-- some WORD's N can't be told, or is out of its bounds -/
def anyBad (s : ST) : Nat → Bool
  | 0 => false
  | k + 1 => anyBad s k || (match s.2.2.2.1 k with
    | none => false
    | some q => amBad K V (decide (s.2.2.2.2.1 k = 36 ∨ s.2.2.2.2.1 k = 37)) s.2.2.2.2.2 q)
def finW (s : ST) (k : Nat) : Int64 := match s.2.2.2.1 k with
  | none => s.2.2.1 k
  | some q => s.2.2.1 k ||| (amVal K V s.2.2.2.2.2 q <<< ((32 : Int32).toInt64 &&& 63))
end PSQ
def s0S : ST := (0, 0, fun _ => 0, fun _ => none, fun _ => 0, 0, fun _ => 0, fun _ => 0, false)
/-- what the TOKENS make: none, or how many WORDS, and which, and the NAMES -/
def outS (L : List Tok) : Option ST := (prsS (tkK L) (tkV L) 700 s0S).bind (fun s => if s.2.2.2.2.2.2.2.2 || anyBad (tkK L) (tkV L) s s.2.1 then none else some s)
