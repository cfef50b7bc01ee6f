/-! THE PURE MACHINE: a world is a list of cells, a reference is a cell's place in it; instructions are functions. -/
abbrev pE : Type := (Nat × vp_A) ⊕ (Nat × List Value)
abbrev pW : Type := List pE
abbrev pL : Type := List (Option Value)
abbrev pCw (ω : Type) : Type := Nat × pL × List Value × ω
abbrev pC : Type := pCw pW
abbrev pK : Type := Nat × Nat × Option Nat
abbrev pI : Type := (pC → Option pC) ⊕ (pK ⊕ Option FieldType)
abbrev pM : Type := List (Nat × pI)
abbrev pRec : Type := Nat → List Value → pW → Option (Option Value × pW)
noncomputable section
def pfind : pM → Nat → Option pI
  | [], _ => none
  | (k, i) :: r, pc => bif Nat.beq k pc then some i else pfind r pc
def csz : pE → Nat
  | .inl (_, a) => a.1
  | .inr (_, fs) => fs.length
def wsl (w : pW) : Nat := (w.map csz).sum
/-- a boolean as the machine has it -/
def bI (b : Bool) : Int32 := bif b then 1 else 0
def okv : FieldType → Value → Bool
  | .boolean, .int x => x == 0 || x == 1
  | .int, .int _ => true
  | .long, .long _ => true
  | .object _, .ref _ => true
  | .object _, .null => true
  | .array _, .ref _ => true
  | _, _ => false
def pst {ω : Type} (g : List Value → Option (List Value)) (n : Nat) : pCw ω → Option (pCw ω)
  | (_, ls, st, w) => match g st with
    | some st' => some (n, ls, st', w)
    | none => none
-- stack alone
def g_k (v : Value) : List Value → Option (List Value) := fun st => some (v :: st)
def g_id : List Value → Option (List Value) := fun st => some st
def g_i2 (f : Int32 → Int32 → Int32) : List Value → Option (List Value)
  | .int y :: .int x :: st => some (.int (f x y) :: st)
  | _ => none
def g_i1 (f : Int32 → Int32) : List Value → Option (List Value)
  | .int x :: st => some (.int (f x) :: st)
  | _ => none
def g_l2 (f : Int64 → Int64 → Int64) : List Value → Option (List Value)
  | .long y :: .long x :: st => some (.long (f x y) :: st)
  | _ => none
def g_ls (f : Int64 → Int32 → Int64) : List Value → Option (List Value)
  | .int y :: .long x :: st => some (.long (f x y) :: st)
  | _ => none
def g_i2l : List Value → Option (List Value)
  | .int x :: st => some (.long x.toInt64 :: st)
  | _ => none
def g_l2i : List Value → Option (List Value)
  | .long x :: st => some (.int x.toInt32 :: st)
  | _ => none
def g_lcmp : List Value → Option (List Value)
  | .long y :: .long x :: st => some (.int (lg_cmp x y) :: st)
  | _ => none
def g_idiv (f : Int32 → Int32 → Int32) : List Value → Option (List Value)
  | .int y :: .int x :: st => bif decide (y = 0) then none else some (.int (f x y) :: st)
  | _ => none
def g_ldiv (f : Int64 → Int64 → Int64) : List Value → Option (List Value)
  | .long y :: .long x :: st => bif decide (y = 0) then none else some (.long (f x y) :: st)
  | _ => none
def g_dup : List Value → Option (List Value)
  | v :: st => bif Nat.beq v.category 1 then some (v :: v :: st) else none
  | _ => none
def g_dupx1 : List Value → Option (List Value)
  | v :: u :: st => bif Nat.beq v.category 1 && Nat.beq u.category 1 then some (v :: u :: v :: st) else none
  | _ => none
def shl (x y : Int32) : Int32 := x <<< (y &&& 31)
def shr (x y : Int32) : Int32 := x >>> (y &&& 31)
def ushr (x y : Int32) : Int32 := (x.toUInt32 >>> (y.toUInt32 &&& Int32.toUInt32 31)).toInt32
def lshl (x : Int64) (y : Int32) : Int64 := x <<< (y.toInt64 &&& 63)
def lshr (x : Int64) (y : Int32) : Int64 := x >>> (y.toInt64 &&& 63)
def lushr (x : Int64) (y : Int32) : Int64 := (x.toUInt64 >>> (y.toInt64.toUInt64 &&& Int64.toUInt64 63)).toInt64
def i2b (x : Int32) : Int32 := x.toInt8.toInt32
def i2s (x : Int32) : Int32 := x.toInt16.toInt32
def irem (x y : Int32) : Int32 := x - x / y * y
def lrem (x y : Int64) : Int64 := x - x / y * y
def imax (x y : Int32) : Int32 := if x < y then y else x
def imin (x y : Int32) : Int32 := if y < x then y else x
def iabs (x : Int32) : Int32 := if 0 ≤ x then x else 0 - x
def psum (st : List Value) : Nat := (st.map fun v => v.category).sum
def g_m2 (f : Int32 → Int32 → Int32) : List Value → Option (List Value)
  | .int y :: .int x :: st => bif Nat.ble (psum st) 8 then some (.int (f x y) :: st) else none
  | _ => none
def g_m1 (f : Int32 → Int32) : List Value → Option (List Value)
  | .int x :: st => bif Nat.ble (psum st) 8 then some (.int (f x) :: st) else none
  | _ => none
-- locals
def pkill (i : Nat) (ls : pL) : pL := match i with
  | 0 => ls
  | j + 1 => match ls[j]? with
    | some (some v) => bif Nat.beq v.category 2 then ls.set j none else ls
    | _ => ls
def pset (i : Nat) (v : Value) (ls : pL) : pL := bif Nat.beq v.category 2 then ((pkill i ls).set (i + 1) none).set i (some v) else (pkill i ls).set i (some v)
def pstore {ω : Type} (ok : Value → Bool) (i n : Nat) : pCw ω → Option (pCw ω)
  | (_, ls, v :: st, w) => bif ok v && Nat.ble (i + v.category) ls.length then some (n, pset i v ls, st, w) else none
  | _ => none
def isI : Value → Bool
  | .int _ => true
  | _ => false
def isL : Value → Bool
  | .long _ => true
  | _ => false
def isA : Value → Bool
  | .ref _ => true
  | .null => true
  | .float _ => true
  | _ => false
def ploadk {ω : Type} (ok : Value → Bool) (i n : Nat) : pCw ω → Option (pCw ω)
  | (_, ls, st, w) => match ls[i]? with
    | some (some v) => bif ok v then some (n, ls, v :: st, w) else none
    | _ => none
def piinc {ω : Type} (i : Nat) (d : Int32) (n : Nat) : pCw ω → Option (pCw ω)
  | (_, ls, st, w) => match ls[i]? with
    | some (some (.int x)) => some (n, pset i (.int (x + d)) ls, st, w)
    | _ => none
-- branches
def pif {ω : Type} (c : Int32 → Bool) (t n : Nat) : pCw ω → Option (pCw ω)
  | (_, ls, .int x :: st, w) => some (bif c x then t else n, ls, st, w)
  | _ => none
def picmp {ω : Type} (c : Int32 → Int32 → Bool) (t n : Nat) : pCw ω → Option (pCw ω)
  | (_, ls, .int y :: .int x :: st, w) => some (bif c x y then t else n, ls, st, w)
  | _ => none
def cEq (x y : Int32) : Bool := decide (x = y)
def cNe (x y : Int32) : Bool := !decide (x = y)
def cLt (x y : Int32) : Bool := decide (x < y)
def cGe (x y : Int32) : Bool := decide (y ≤ x)
def cGt (x y : Int32) : Bool := decide (y < x)
def cLe (x y : Int32) : Bool := decide (x ≤ y)
def pnull {ω : Type} (t n : Nat) : pCw ω → Option (pCw ω)
  | (_, ls, .null :: st, w) => some (t, ls, st, w)
  | (_, ls, .ref _ :: st, w) => some (n, ls, st, w)
  | _ => none
def ptab : List (Int32 × Nat) → Nat → Int32 → Nat
  | [], d, _ => d
  | (k, t) :: r, d, x => bif decide (x = k) then t else ptab r d x
def psw {ω : Type} (l : List (Int32 × Nat)) (d : Nat) : pCw ω → Option (pCw ω)
  | (_, ls, .int x :: st, w) => some (ptab l d x, ls, st, w)
  | _ => none
/-- at a loop's head what is not read again is forgotten -/
def pforget (m : List Nat) (ls : pL) : pL := match m with
  | [] => ls
  | i :: r => pforget r (ls.set i none)
def pclr {ω : Type} (m : List Nat) (f : pCw ω → Option (pCw ω)) : pCw ω → Option (pCw ω)
  | (pc, ls, st, w) => f (pc, pforget m ls, st, w)
-- fields
def pgetf (ci k n : Nat) : pC → Option pC
  | (_, ls, .ref i :: st, w) => match w[i]? with
    | some (.inr (c', fs)) => bif Nat.beq c' ci then (match fs[k]? with
      | some v => some (n, ls, v :: st, w)
      | none => none) else none
    | _ => none
  | _ => none
def pputf (ci k : Nat) (ty : FieldType) (n : Nat) : pC → Option pC
  | (_, ls, v :: .ref i :: st, w) => match w[i]? with
    | some (.inr (c', fs)) => bif Nat.beq c' ci && okv ty v && Nat.ble (k + 1) fs.length then some (n, ls, st, w.set i (.inr (c', fs.set k v))) else none
    | _ => none
  | _ => none
-- arrays
def vin (x : Int32) (N : Nat) : Bool := !(decide (x < 0) || Nat.ble N x.toNatClampNeg)
def piald (n : Nat) : pC → Option pC
  | (_, ls, .int x :: .ref i :: st, w) => match w[i]? with
    | some (.inl (0, N, .inl f)) => bif vin x N then some (n, ls, .int (f x.toNatClampNeg) :: st, w) else none
    | _ => none
  | _ => none
def piast (n : Nat) : pC → Option pC
  | (_, ls, .int y :: .int x :: .ref i :: st, w) => match w[i]? with
    | some (.inl (0, N, .inl f)) => bif vin x N then some (n, ls, st, w.set i (.inl (0, N, .inl (upd f x.toNatClampNeg y)))) else none
    | _ => none
  | _ => none
def palen (n : Nat) : pC → Option pC
  | (_, ls, .ref i :: st, w) => match w[i]? with
    | some (.inl (0, N, .inl _)) => some (n, ls, .int (Int32.ofNat N) :: st, w)
    | some (.inl (1, N, .inr (.inr (.inr (.inr _))))) => some (n, ls, .int (Int32.ofNat N) :: st, w)
    | _ => none
  | _ => none
def prf : Option Nat → Value
  | none => .null
  | some i => .ref i
def paald (n : Nat) : pC → Option pC
  | (_, ls, .int x :: .ref i :: st, w) => match w[i]? with
    | some (.inl (1, N, .inr (.inr (.inr (.inr f))))) => bif vin x N then some (n, ls, prf (f x.toNatClampNeg) :: st, w) else none
    | _ => none
  | _ => none
def paast (n : Nat) : pC → Option pC
  | (_, ls, .ref j :: .int x :: .ref i :: st, w) => match w[i]? with
    | some (.inl (1, N, .inr (.inr (.inr (.inr f))))) => match w[j]? with
      | some (.inr (2, _)) => bif vin x N then some (n, ls, st, w.set i (.inl (1, N, .inr (.inr (.inr (.inr (va_up f x.toNatClampNeg (some j)))))))) else none
      | _ => none
    | _ => none
  | _ => none
-- the script: a float stands for it
def psld {ω : Type} (L : Nat) (xs : Nat → Int32) (n : Nat) : pCw ω → Option (pCw ω)
  | (_, ls, .int x :: .float _ :: st, w) => bif vin x L then some (n, ls, .int (xs x.toNatClampNeg) :: st, w) else none
  | _ => none
def pslen {ω : Type} (L : Nat) (n : Nat) : pCw ω → Option (pCw ω)
  | (_, ls, .float _ :: st, w) => some (n, ls, .int (Int32.ofNat L) :: st, w)
  | _ => none
-- making
def pnew (ci : Nat) (fs : List Value) (n : Nat) : pC → Option pC
  | (_, ls, st, w) => some (n, ls, .ref w.length :: st, w ++ [.inr (ci, fs)])
def pnewa (n : Nat) : pC → Option pC
  | (_, ls, .int x :: st, w) => bif !decide (x < 0) && Nat.ble x.toNatClampNeg 100000 then some (n, ls, .ref w.length :: st, w ++ [.inl (0, x.toNatClampNeg, .inl (fun _ => 0))]) else none
  | _ => none
def pnewq (n : Nat) : pC → Option pC
  | (_, ls, .int x :: st, w) => bif !decide (x < 0) && Nat.ble x.toNatClampNeg 100000 then some (n, ls, .ref w.length :: st, w ++ [.inl (1, x.toNatClampNeg, .inr (.inr (.inr (.inr (fun _ => none)))))]) else none
  | _ => none
/-- Object's own <init>: it does nothing -/
def pobj (n : Nat) : pC → Option pC
  | (_, ls, [.ref _], w) => some (n, ls, [], w)
  | _ => none
-- calls, returns, runs
def precv (kd : Option Nat) (as : List Value) (w : pW) : Bool := match kd with
  | none => true
  | some ci => match as with
    | .ref i :: _ => match w[i]? with
      | some (.inr (c', _)) => Nat.beq c' ci
      | _ => false
    | _ => false
def pargs (q : pK) (st : List Value) (w : pW) : Option (List Value × List Value) :=
  bif Nat.beq (st.take q.2.1).length q.2.1 && Nat.ble (psum (st.drop q.2.1)) 8 && precv q.2.2 (st.take q.2.1).reverse w then some ((st.take q.2.1).reverse, st.drop q.2.1) else none
def pret : Option FieldType → List Value → Option (Option Value)
  | none, [] => some none
  | some ty, [v] => bif okv ty v then some (some v) else none
  | _, _ => none
def pexec (t : pM) (rec : pRec) : Nat → pC → Option (Option Value × pW)
  | 0, _ => none
  | n + 1, (pc, ls, st, w) => match pfind t pc with
    | some (.inl f) => match f (pc, ls, st, w) with
      | some C => pexec t rec n C
      | none => none
    | some (.inr (.inl q)) => match pargs q st w with
      | some (as, rest) => match rec q.1 as w with
        | some (v, w') => pexec t rec n (pc + 3, ls, v.toList ++ rest, w')
        | none => none
      | none => none
    | some (.inr (.inr ty)) => match pret ty st with
      | some v => some (v, w)
      | none => none
    | none => none
def pin (as : List Value) : pL := as.flatMap (fun v => bif Nat.beq v.category 2 then [some v, none] else [some v])
def pinit (nL : Nat) (as : List Value) : pL := pin as ++ List.replicate (nL - (pin as).length) none
abbrev pTab : Type := Nat → Option (Nat × Bool × pM)
/-- a method's run: d calls may stand open behind it, in lo words of locals; one with a flag calls Object's own, or Math's -/
def pgate (M : Nat × Bool × pM) (d lo : Nat) (as : List Value) : Bool := (!M.2.1 || (Nat.ble 1 d && Nat.ble 21 lo)) && Nat.ble (pin as).length M.1
def prun (T : pTab) : Nat → Nat → Nat → pRec
  | 0, lo, n => fun j as w => match T j with
    | some M => bif pgate M 0 lo as then pexec M.2.2 (fun _ _ _ => none) n (0, pinit M.1 as, [], w) else none
    | none => none
  | d + 1, lo, n => fun j as w => match T j with
    | some M => bif pgate M (d + 1) lo as then pexec M.2.2 (fun k as' w' => match T k with
      | some M' => bif Nat.ble (19 + M'.1) lo then prun T d (lo - (19 + M'.1)) n k as' w' else none
      | none => none) n (0, pinit M.1 as, [], w) else none
    | none => none
end
