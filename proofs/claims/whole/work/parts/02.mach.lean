/-! ===== a small machine of our own: typed memory, refs by class code and number ===== -/
abbrev zR : Type := Option (Nat × Nat)
abbrev zV : Type := Int32 ⊕ (Int64 ⊕ zR)
abbrev vI (x : Int32) : zV := Sum.inl x
abbrev vL (x : Int64) : zV := Sum.inr (Sum.inl x)
abbrev vR (x : zR) : zV := Sum.inr (Sum.inr x)
/-- ints, longs, refs by class code, number, place; how many of a class; their order; cells, slots; the script's length -/
abbrev zM : Type := (Nat → Nat → Nat → Int32) × (Nat → Nat → Nat → Int64) × (Nat → Nat → Nat → zR) × (Nat → Nat) × (Nat → Nat → Nat) × Nat × Nat × Nat
def rI (h : zM) (c i f : Nat) : Int32 := h.1 c i f
def rL (h : zM) (c i f : Nat) : Int64 := h.2.1 c i f
def rR (h : zM) (c i f : Nat) : zR := h.2.2.1 c i f
def cnM (h : zM) (c : Nat) : Nat := h.2.2.2.1 c
def aoM (h : zM) (c i : Nat) : Nat := h.2.2.2.2.1 c i
def ncM (h : zM) : Nat := h.2.2.2.2.2.1
def nsM (h : zM) : Nat := h.2.2.2.2.2.2.1
def slM (h : zM) : Nat := h.2.2.2.2.2.2.2
def wI (h : zM) (c i f : Nat) (v : Int32) : zM := (fun c' i' f' => if c' = c ∧ i' = i ∧ f' = f then v else rI h c' i' f', h.2)
def wL (h : zM) (c i f : Nat) (v : Int64) : zM := (h.1, fun c' i' f' => if c' = c ∧ i' = i ∧ f' = f then v else rL h c' i' f', h.2.2)
def wR (h : zM) (c i f : Nat) (v : zR) : zM := (h.1, h.2.1, fun c' i' f' => if c' = c ∧ i' = i ∧ f' = f then v else rR h c' i' f', h.2.2.2)
def nwM (h : zM) (c z : Nat) : zM :=
  (fun c' i' f' => if c' = c ∧ i' = cnM h c then 0 else rI h c' i' f', fun c' i' f' => if c' = c ∧ i' = cnM h c then 0 else rL h c' i' f', fun c' i' f' => if c' = c ∧ i' = cnM h c then none else rR h c' i' f',
   fun c' => if c' = c then cnM h c + 1 else cnM h c', fun c' i' => if c' = c ∧ i' = cnM h c then ncM h else aoM h c' i', ncM h + 1, nsM h + z, slM h)
/-- n ints from place sp of one array to place dp of another one, as if taken ahead -/
def cpM (h : zM) (c i sp c2 i2 dp n : Nat) : zM := (fun c' i' f' => if c' = c2 ∧ i' = i2 ∧ dp ≤ f' ∧ f' < dp + n then rI h c i (sp + (f' - dp)) else rI h c' i' f', h.2)
def clR (r : zR) : Nat := match r with | none => 99 | some p => p.1
def ixR (r : zR) : Nat := match r with | none => 0 | some p => p.2
/-- locals, stack, memory, whether all went well -/
abbrev zS : Type := List (Option zV) × List zV × zM × Bool
def zbad (s : zS) : zS := (s.1, s.2.1, s.2.2.1, false)
def lget : List (Option zV) → Nat → Option zV
  | [], _ => none
  | a :: _, 0 => a
  | _ :: t, n + 1 => lget t n
def lset : List (Option zV) → Nat → Option zV → List (Option zV)
  | [], _, _ => []
  | _ :: t, 0, v => v :: t
  | a :: t, n + 1, v => a :: lset t n v
def isLg : Option zV → Bool
  | some (.inr (.inl _)) => true
  | _ => false
/-- a store into local i ends a long that began just before it -/
def lput1 (ls : List (Option zV)) (i : Nat) (v : zV) : List (Option zV) :=
  match i with
  | 0 => lset ls 0 (some v)
  | j + 1 => lset (if isLg (lget ls j) then lset ls j none else ls) (j + 1) (some v)
def lput2 (ls : List (Option zV)) (i : Nat) (v : zV) : List (Option zV) := lset (lput1 ls i v) (i + 1) none
-- instructions
def iCon (v : zV) : zS → zS
  | (ls, st, h, g) => (ls, v :: st, h, g)
def iLI (i : Nat) : zS → zS
  | (ls, st, h, g) => match lget ls i with
    | some (.inl v) => (ls, vI v :: st, h, g)
    | _ => (ls, st, h, false)
def iLL (i : Nat) : zS → zS
  | (ls, st, h, g) => match lget ls i with
    | some (.inr (.inl v)) => (ls, vL v :: st, h, g)
    | _ => (ls, st, h, false)
def iLA (i : Nat) : zS → zS
  | (ls, st, h, g) => match lget ls i with
    | some (.inr (.inr v)) => (ls, vR v :: st, h, g)
    | _ => (ls, st, h, false)
def iSI (i : Nat) : zS → zS
  | (ls, (.inl v) :: st, h, g) => (lput1 ls i (vI v), st, h, Nat.blt i ls.length && g)
  | s => zbad s
def iSA (i : Nat) : zS → zS
  | (ls, (.inr (.inr v)) :: st, h, g) => (lput1 ls i (vR v), st, h, Nat.blt i ls.length && g)
  | s => zbad s
def iSL (i : Nat) : zS → zS
  | (ls, (.inr (.inl v)) :: st, h, g) => (lput2 ls i (vL v), st, h, Nat.blt (i + 1) ls.length && g)
  | s => zbad s
def iInc (i : Nat) (n : Int32) : zS → zS
  | (ls, st, h, g) => match lget ls i with
    | some (.inl v) => (lput1 ls i (vI (v + n)), st, h, g)
    | _ => (ls, st, h, false)
/-- a store that forgets the local just before it -/
def lputK (ls : List (Option zV)) (i : Nat) (v : zV) : List (Option zV) := lset (lset ls (i - 1) none) i (some v)
def lput2K (ls : List (Option zV)) (i : Nat) (v : zV) : List (Option zV) := lset (lputK ls i v) (i + 1) none
def iSIk (i : Nat) : zS → zS
  | (ls, (.inl v) :: st, h, g) => (lputK ls i (vI v), st, h, Nat.blt i ls.length && g)
  | s => zbad s
def iSAk (i : Nat) : zS → zS
  | (ls, (.inr (.inr v)) :: st, h, g) => (lputK ls i (vR v), st, h, Nat.blt i ls.length && g)
  | s => zbad s
def iSLk (i : Nat) : zS → zS
  | (ls, (.inr (.inl v)) :: st, h, g) => (lput2K ls i (vL v), st, h, Nat.blt (i + 1) ls.length && g)
  | s => zbad s
def iInk (i : Nat) (n : Int32) : zS → zS
  | (ls, st, h, g) => match lget ls i with
    | some (.inl v) => (lputK ls i (vI (v + n)), st, h, g)
    | _ => (ls, st, h, false)
def iBin (op : Int32 → Int32 → Int32) : zS → zS
  | (ls, (.inl y) :: (.inl x) :: st, h, g) => (ls, vI (op x y) :: st, h, g)
  | s => zbad s
/-- idiv, irem: the lower number isn't 0 -/
def iBin0 (op : Int32 → Int32 → Int32) : zS → zS
  | (ls, (.inl y) :: (.inl x) :: st, h, g) => (ls, vI (op x y) :: st, h, !decide (y = 0) && g)
  | s => zbad s
def iUn (op : Int32 → Int32) : zS → zS
  | (ls, (.inl x) :: st, h, g) => (ls, vI (op x) :: st, h, g)
  | s => zbad s
def lBin (op : Int64 → Int64 → Int64) : zS → zS
  | (ls, (.inr (.inl y)) :: (.inr (.inl x)) :: st, h, g) => (ls, vL (op x y) :: st, h, g)
  | s => zbad s
def lBin0 (op : Int64 → Int64 → Int64) : zS → zS
  | (ls, (.inr (.inl y)) :: (.inr (.inl x)) :: st, h, g) => (ls, vL (op x y) :: st, h, !decide (y = 0) && g)
  | s => zbad s
def lUn (op : Int64 → Int64) : zS → zS
  | (ls, (.inr (.inl x)) :: st, h, g) => (ls, vL (op x) :: st, h, g)
  | s => zbad s
def iI2L : zS → zS
  | (ls, (.inl x) :: st, h, g) => (ls, vL x.toInt64 :: st, h, g)
  | s => zbad s
def iL2I : zS → zS
  | (ls, (.inr (.inl x)) :: st, h, g) => (ls, vI x.toInt32 :: st, h, g)
  | s => zbad s
def iCmp : zS → zS
  | (ls, (.inr (.inl y)) :: (.inr (.inl x)) :: st, h, g) => (ls, vI (lg_cmp x y) :: st, h, g)
  | s => zbad s
def iDup : zS → zS
  | (ls, a :: st, h, g) => (ls, a :: a :: st, h, !isLg (some a) && g)
  | s => zbad s
def iDup2 : zS → zS
  | (ls, a :: b :: st, h, g) => (ls, a :: b :: a :: b :: st, h, !isLg (some a) && (!isLg (some b) && g))
  | s => zbad s
def iPop : zS → zS
  | (ls, a :: st, h, g) => (ls, st, h, !isLg (some a) && g)
  | s => zbad s
def memN (cs : List Nat) (c : Nat) : Bool := match cs with
  | [] => false
  | a :: t => Nat.beq c a || memN t c
-- fields
def iGI (cs : List Nat) (j : Nat) : zS → zS
  | (ls, (.inr (.inr r)) :: st, h, g) => (ls, vI (rI h (clR r) (ixR r) j) :: st, h, memN cs (clR r) && g)
  | s => zbad s
def iGL (cs : List Nat) (j : Nat) : zS → zS
  | (ls, (.inr (.inr r)) :: st, h, g) => (ls, vL (rL h (clR r) (ixR r) j) :: st, h, memN cs (clR r) && g)
  | s => zbad s
def iGR (cs : List Nat) (j : Nat) : zS → zS
  | (ls, (.inr (.inr r)) :: st, h, g) => (ls, vR (rR h (clR r) (ixR r) j) :: st, h, memN cs (clR r) && g)
  | s => zbad s
/-- a field that is known to hold f of its object's number -/
def iGS (cs : List Nat) (j : Nat) (f : Nat → zR) : zS → zS
  | (ls, (.inr (.inr r)) :: st, h, g) => (ls, vR (f (ixR r)) :: st, h, memN cs (clR r) && (decide (rR h (clR r) (ixR r) j = f (ixR r)) && g))
  | s => zbad s
def iPI (cs : List Nat) (j : Nat) : zS → zS
  | (ls, (.inl v) :: (.inr (.inr r)) :: st, h, g) => (ls, st, wI h (clR r) (ixR r) j v, memN cs (clR r) && g)
  | s => zbad s
def isB (v : Int32) : Bool := decide (v = 0) || decide (v = 1)
def iPZ (cs : List Nat) (j : Nat) : zS → zS
  | (ls, (.inl v) :: (.inr (.inr r)) :: st, h, g) => (ls, st, wI h (clR r) (ixR r) j v, memN cs (clR r) && (isB v && g))
  | s => zbad s
def iPL (cs : List Nat) (j : Nat) : zS → zS
  | (ls, (.inr (.inl v)) :: (.inr (.inr r)) :: st, h, g) => (ls, st, wL h (clR r) (ixR r) j v, memN cs (clR r) && g)
  | s => zbad s
def iPR (cs : List Nat) (j : Nat) : zS → zS
  | (ls, (.inr (.inr v)) :: (.inr (.inr r)) :: st, h, g) => (ls, st, wR h (clR r) (ixR r) j v, memN cs (clR r) && g)
  | s => zbad s
-- arrays
def ixOk (n : Nat) (i : Int32) : Bool := !decide (i < 0) && decide (i.toNatClampNeg < n)
def iAI : zS → zS
  | (ls, (.inl i) :: (.inr (.inr r)) :: st, h, g) => (ls, vI (rI h (clR r) (ixR r) i.toNatClampNeg) :: st, h, Nat.beq (akd (clR r)) 1 && (ixOk (aln (clR r)) i && g))
  | s => zbad s
/-- the script's own row -/
def iAS : zS → zS
  | (ls, (.inl i) :: (.inr (.inr r)) :: st, h, g) => (ls, vI (rI h (clR r) (ixR r) i.toNatClampNeg) :: st, h, Nat.beq (clR r) 19 && (ixOk (slM h) i && g))
  | s => zbad s
/-- baload of bytes (k 2) or booleans (k 3) -/
def iAB (k : Nat) : zS → zS
  | (ls, (.inl i) :: (.inr (.inr r)) :: st, h, g) => (ls, vI (rI h (clR r) (ixR r) i.toNatClampNeg) :: st, h, Nat.beq (akd (clR r)) k && (ixOk (aln (clR r)) i && g))
  | s => zbad s
def iAR (ks : List Nat) : zS → zS
  | (ls, (.inl i) :: (.inr (.inr r)) :: st, h, g) => (ls, vR (rR h (clR r) (ixR r) i.toNatClampNeg) :: st, h, memN ks (akd (clR r)) && (ixOk (aln (clR r)) i && g))
  | s => zbad s
/-- an element that is known to be f of its place -/
def iAF (k : Nat) (f : Nat → zR) : zS → zS
  | (ls, (.inl i) :: (.inr (.inr r)) :: st, h, g) => (ls, vR (f i.toNatClampNeg) :: st, h, Nat.beq (akd (clR r)) k && (ixOk (aln (clR r)) i && (decide (rR h (clR r) (ixR r) i.toNatClampNeg = f i.toNatClampNeg) && g)))
  | s => zbad s
def iWI : zS → zS
  | (ls, (.inl v) :: (.inl i) :: (.inr (.inr r)) :: st, h, g) => (ls, st, wI h (clR r) (ixR r) i.toNatClampNeg v, Nat.beq (akd (clR r)) 1 && (ixOk (aln (clR r)) i && g))
  | s => zbad s
def iWB : zS → zS
  | (ls, (.inl v) :: (.inl i) :: (.inr (.inr r)) :: st, h, g) => (ls, st, wI h (clR r) (ixR r) i.toNatClampNeg v.toInt8.toInt32, Nat.beq (akd (clR r)) 2 && (ixOk (aln (clR r)) i && g))
  | s => zbad s
def iWZ : zS → zS
  | (ls, (.inl v) :: (.inl i) :: (.inr (.inr r)) :: st, h, g) => (ls, st, wI h (clR r) (ixR r) i.toNatClampNeg v, Nat.beq (akd (clR r)) 3 && (ixOk (aln (clR r)) i && (isB v && g)))
  | s => zbad s
/-- aastore of an object of class e into an array of kind k -/
def iWR (k e : Nat) : zS → zS
  | (ls, (.inr (.inr v)) :: (.inl i) :: (.inr (.inr r)) :: st, h, g) => (ls, st, wR h (clR r) (ixR r) i.toNatClampNeg v, Nat.beq (akd (clR r)) k && (Nat.beq (clR v) e && (ixOk (aln (clR r)) i && g)))
  | s => zbad s
def iLen (ks : List Nat) : zS → zS
  | (ls, (.inr (.inr r)) :: st, h, g) => (ls, vI (Int32.ofNat (aln (clR r))) :: st, h, memN ks (akd (clR r)) && g)
  | s => zbad s
def iLenS : zS → zS
  | (ls, (.inr (.inr r)) :: st, h, g) => (ls, vI (Int32.ofNat (slM h)) :: st, h, Nat.beq (clR r) 19 && g)
  | s => zbad s
def iNew (c z : Nat) : zS → zS
  | (ls, st, h, g) => (ls, vR (some (c, cnM h c)) :: st, nwM h c z, g)
def iNA (c : Nat) : zS → zS
  | (ls, (.inl n) :: st, h, g) => (ls, vR (some (c, cnM h c)) :: st, nwM h c (aln c), decide (n = Int32.ofNat (aln c)) && g)
  | s => zbad s
def ctS (vs : List zV) : Nat := match vs with
  | [] => 0
  | v :: t => (bif isLg (some v) then 2 else 1) + ctS t
-- ends of a stretch: on to a place (a depth of one is wanted, or not), back, or a call
abbrev zA : Type := (Nat × Bool × zS) ⊕ ((Option zV × zM × Bool) ⊕ (Nat × List zV × Nat × zS))
def tGo (a : Nat) (s : zS) : zA := .inl (a, false, s)
def tIf (p : Int32 → Bool) (a b : Nat) : zS → zA
  | (ls, (.inl x) :: st, h, g) => .inl (bif p x then a else b, false, (ls, st, h, g))
  | s => .inl (0, false, zbad s)
def tCm (p : Int32 → Int32 → Bool) (a b : Nat) : zS → zA
  | (ls, (.inl y) :: (.inl x) :: st, h, g) => .inl (bif p x y then a else b, false, (ls, st, h, g))
  | s => .inl (0, false, zbad s)
/-- to a if it is null, else to b -/
def tNu (a b : Nat) : zS → zA
  | (ls, (.inr (.inr r)) :: st, h, g) => .inl (bif Option.isNone r then a else b, false, (ls, st, h, g))
  | s => .inl (0, false, zbad s)
def swL (lo hi : Int) (labs : List Nat) (dflt : Nat) (x : Int32) : Nat := if x.toInt < lo ∨ hi < x.toInt then dflt else labs.getD (x.toInt - lo).toNat dflt
def tSw (lo hi : Int) (labs : List Nat) (dflt : Nat) : zS → zA
  | (ls, (.inl x) :: st, h, g) => .inl (swL lo hi labs dflt x, false, (ls, st, h, g))
  | s => .inl (0, false, zbad s)
def tOi (a : Nat) : zS → zA
  | (ls, (.inr (.inr r)) :: st, h, g) => .inl (a, true, (ls, st, h, Nat.blt (clR r) 99 && (Nat.ble (ctS st) 8 && g)))
  | s => .inl (0, false, zbad s)
/-- System.arraycopy of ints, then on to a -/
def tCp (a : Nat) : zS → zA
  | (ls, (.inl n) :: (.inl dp) :: (.inr (.inr r2)) :: (.inl sp) :: (.inr (.inr r)) :: st, h, g) =>
    .inl (a, true, (ls, st, cpM h (clR r) (ixR r) sp.toNatClampNeg (clR r2) (ixR r2) dp.toNatClampNeg n.toNatClampNeg,
     Nat.beq (akd (clR r)) 1 && (Nat.beq (akd (clR r2)) 1 && (!decide (n < 0) && (!decide (sp < 0) && (!decide (dp < 0) && (decide (sp.toNatClampNeg + n.toNatClampNeg ≤ aln (clR r)) && (decide (dp.toNatClampNeg + n.toNatClampNeg ≤ aln (clR r2)) && (Nat.ble (ctS st) 8 && g)))))))))
  | s => .inl (0, false, zbad s)
/-- Math's max, min; abs of an int; of a long; then on to a -/
def tM2 (op : Int32 → Int32 → Int32) (a : Nat) : zS → zA
  | (ls, (.inl y) :: (.inl x) :: st, h, g) => .inl (a, true, (ls, vI (op x y) :: st, h, Nat.ble (ctS st) 8 && g))
  | s => .inl (0, false, zbad s)
def tM1 (op : Int32 → Int32) (a : Nat) : zS → zA
  | (ls, (.inl x) :: st, h, g) => .inl (a, true, (ls, vI (op x) :: st, h, Nat.ble (ctS st) 8 && g))
  | s => .inl (0, false, zbad s)
def tML (op : Int64 → Int64) (a : Nat) : zS → zA
  | (ls, (.inr (.inl x)) :: st, h, g) => .inl (a, true, (ls, vL (op x) :: st, h, Nat.ble (ctS st) 8 && g))
  | s => .inl (0, false, zbad s)
/-- 0 nothing, 1 an int, 2 a boolean, 3 a long, 4 a ref -/
def tRe (k : Nat) : zS → zA
  | (_, st, h, g) => match k, st with
    | 0, [] => .inr (.inl (none, h, g))
    | 1, [.inl x] => .inr (.inl (some (vI x), h, g))
    | 2, [.inl x] => .inr (.inl (some (vI x), h, isB x && g))
    | 3, [.inr (.inl x)] => .inr (.inl (some (vL x), h, g))
    | 4, [.inr (.inr x)] => .inr (.inl (some (vR x), h, g))
    | _, _ => .inr (.inl (none, h, false))
def stk (n : Nat) (st : List zV) (acc : List zV) : Option (List zV × List zV) := match n, st with
  | 0, st => some (acc, st)
  | n + 1, a :: st => stk n st (a :: acc)
  | _ + 1, [] => none
/-- a static method k of n parameters, then on to a -/
def tCs (n k a : Nat) : zS → zA
  | (ls, st0, h, g) => match stk n st0 [] with
    | some (as, st) => .inr (.inr (k, as, a, (ls, st, h, Nat.ble (ctS st) 8 && g)))
    | none => .inl (0, false, (ls, st0, h, false))
/-- a method of an object whose class is among cs, and n parameters: which one, by its class -/
def tCv (n : Nat) (cs : List Nat) (sel : Nat → Nat) (a : Nat) : zS → zA
  | (ls, st0, h, g) => match stk n st0 [] with
    | some (as, (.inr (.inr r)) :: st) => .inr (.inr (sel (clR r), vR r :: as, a, (ls, st, h, memN cs (clR r) && (Nat.ble (ctS st) 8 && g))))
    | _ => .inl (0, false, (ls, st0, h, false))
def zrun : List (zS → zS) → zS → zS
  | [], s => s
  | i :: l, s => zrun l (i s)
abbrev zSeg : Type := List (zS → zS) × (zS → zA)
/-- a method: its name, its bytes, its locals, what it answers, its stretches by their places -/
abbrev zMI : Type := MethodName × ByteArray × Nat × Option FieldType × (Nat → Option zSeg)
def zent1 : List zV → List (Option zV)
  | [] => []
  | v :: t => bif isLg (some v) then some v :: none :: zent1 t else some v :: zent1 t
def zpad (n : Nat) (l : List (Option zV)) : List (Option zV) := match n, l with
  | 0, l => l
  | n + 1, [] => none :: zpad n []
  | n + 1, a :: t => a :: zpad n t
def zent (n : Nat) (as : List zV) : List (Option zV) := zpad n (zent1 as)
def vpush (v : Option zV) (st : List zV) : List zV := match v with
  | none => st
  | some x => x :: st
def zE (mt : Nat → zMI) : Nat → Nat → Nat → Nat → zS → Option (Option zV × zM)
  | 0, _, _, _, _ => none
  | n + 1, d, f, lab, s =>
    match (mt f).2.2.2.2 lab with
    | none => none
    | some (l, t) =>
      bif (zrun l s).2.2.2 then
        match t (zrun l s) with
        | .inl (lab', fl, s2) => bif s2.2.2.2 && (!fl || Nat.blt 0 d) then zE mt n d f lab' s2 else none
        | .inr (.inl (v, h, g)) => bif g then some (v, h) else none
        | .inr (.inr (k, as, lab', s2)) =>
          bif s2.2.2.2 && Nat.ble (zent1 as).length (mt k).2.2.1 then
            match d with
            | 0 => none
            | d' + 1 =>
              match zE mt n d' k 0 (zent (mt k).2.2.1 as, [], s2.2.2.1, true) with
              | none => none
              | some (v, h) => zE mt n d f lab' (s2.1, vpush v s2.2.1, h, true)
          else none
      else none
