/-! THE PLAIN MACHINE. A reference is a place 0, 1, .. in the order in which cells were made; its address is b + place. Place 0 is the script of the law (kind 6: read, never written). A cell: an array (kind 0 int, 1 long, 2 boolean, 3 rows of ints, 4 rows of longs, 5 sheets; contents) or an object (its class' place in vwCl, its fields). -/
abbrev pCell : Type := (Nat × vp_A) ⊕ (Nat × List Value)
abbrev pW : Type := List pCell
abbrev pLv : Type := List (Nat × Value)
/-- pc, locals, stack, world -/
abbrev pSt : Type := Nat × pLv × List Value × pW
/-- what an instruction does: go on; call method j with these arguments, with what lies below on the stack; return -/
abbrev pOut : Type := pSt ⊕ (Nat × List Value × List Value) ⊕ Option Value
def pGet : pLv → Nat → Option Value
  | [], _ => none
  | q :: l, k => bif Nat.beq q.1 k then some q.2 else pGet l k
def pSet1 (lv : pLv) (i : Nat) (v : Value) : pLv := (i, v) :: lv.filter (fun q => !(q.1 == i) && !(q.1 + 1 == i && q.2.category == 2))
def pSet2 (lv : pLv) (i : Nat) (v : Value) : pLv := (i, v) :: lv.filter (fun q => !(q.1 == i) && (!(q.1 == i + 1) && !(q.1 + 1 == i && q.2.category == 2)))
def pGo1 (pc : Nat) (lv : pLv) (st : List Value) (w : pW) : Option pOut := some (.inl (pc, lv, st, w))
def pLd1 (pc : Nat) (lv : pLv) (st : List Value) (w : pW) (v : Option Value) : Option pOut := match v with
  | some (.int x) => pGo1 pc lv (.int x :: st) w
  | _ => none
def pLdL (pc : Nat) (lv : pLv) (st : List Value) (w : pW) (v : Option Value) : Option pOut := match v with
  | some (.long x) => pGo1 pc lv (.long x :: st) w
  | _ => none
def pLdD (pc : Nat) (lv : pLv) (st : List Value) (w : pW) (v : Option Value) : Option pOut := match v with
  | some (.double x) => pGo1 pc lv (.double x :: st) w
  | _ => none
def pLdA (pc : Nat) (lv : pLv) (st : List Value) (w : pW) (v : Option Value) : Option pOut := match v with
  | some (.ref x) => pGo1 pc lv (.ref x :: st) w
  | some .null => pGo1 pc lv (.null :: st) w
  | _ => none
def pSt1 (pc : Nat) (lv : pLv) (i : Nat) (st : List Value) (w : pW) : Option pOut := match st with
  | .int x :: st => pGo1 pc (pSet1 lv i (.int x)) st w
  | _ => none
def pStL (pc : Nat) (lv : pLv) (i : Nat) (st : List Value) (w : pW) : Option pOut := match st with
  | .long x :: st => pGo1 pc (pSet2 lv i (.long x)) st w
  | _ => none
def pStD (pc : Nat) (lv : pLv) (i : Nat) (st : List Value) (w : pW) : Option pOut := match st with
  | .double x :: st => pGo1 pc (pSet2 lv i (.double x)) st w
  | _ => none
def pStA (pc : Nat) (lv : pLv) (i : Nat) (st : List Value) (w : pW) : Option pOut := match st with
  | .ref x :: st => pGo1 pc (pSet1 lv i (.ref x)) st w
  | .null :: st => pGo1 pc (pSet1 lv i .null) st w
  | _ => none
def pII (pc : Nat) (lv : pLv) (st : List Value) (w : pW) (f : Int32 → Int32 → Value) : Option pOut := match st with
  | .int y :: .int x :: st => pGo1 pc lv (f x y :: st) w
  | _ => none
def pLL (pc : Nat) (lv : pLv) (st : List Value) (w : pW) (f : Int64 → Int64 → Value) : Option pOut := match st with
  | .long y :: .long x :: st => pGo1 pc lv (f x y :: st) w
  | _ => none
def pLI (pc : Nat) (lv : pLv) (st : List Value) (w : pW) (f : Int64 → Int32 → Value) : Option pOut := match st with
  | .int y :: .long x :: st => pGo1 pc lv (f x y :: st) w
  | _ => none
def pDD (pc : Nat) (lv : pLv) (st : List Value) (w : pW) (f : UInt64 → UInt64 → Value) : Option pOut := match st with
  | .double y :: .double x :: st => pGo1 pc lv (f x y :: st) w
  | _ => none
def pI1 (pc : Nat) (lv : pLv) (st : List Value) (w : pW) (f : Int32 → Value) : Option pOut := match st with
  | .int x :: st => pGo1 pc lv (f x :: st) w
  | _ => none
def pL1 (pc : Nat) (lv : pLv) (st : List Value) (w : pW) (f : Int64 → Value) : Option pOut := match st with
  | .long x :: st => pGo1 pc lv (f x :: st) w
  | _ => none
def pD1 (pc : Nat) (lv : pLv) (st : List Value) (w : pW) (f : UInt64 → Value) : Option pOut := match st with
  | .double x :: st => pGo1 pc lv (f x :: st) w
  | _ => none
def pBr (pc : Nat) (dt : List Nat) (lv : pLv) (st : List Value) (w : pW) (c : Bool) : Option pOut := match dt with
  | [t] => bif c then pGo1 t lv st w else pGo1 (pc + 3) lv st w
  | _ => none
def pIf (pc : Nat) (dt : List Nat) (lv : pLv) (st : List Value) (w : pW) (f : Int32 → Bool) : Option pOut := match st with
  | .int x :: st => pBr pc dt lv st w (f x)
  | _ => none
def pIf2 (pc : Nat) (dt : List Nat) (lv : pLv) (st : List Value) (w : pW) (f : Int32 → Int32 → Bool) : Option pOut := match st with
  | .int y :: .int x :: st => pBr pc dt lv st w (f x y)
  | _ => none
def pTf (ci k : Nat) : FieldType := (pTyp.getD ci (fun _ => .int)) k
def pFits (ty : FieldType) (v : Value) : Bool := match ty, v with
  | .int, .int _ | .long, .long _ | .object _, .ref _ | .array _, .ref _ => true
  | _, _ => false
def pGetF (pc : Nat) (dt : List Nat) (lv : pLv) (st : List Value) (w : pW) : Option pOut := match st, dt with
  | .ref a :: st, [ci, k, _] => match w[a]? with
    | some (.inr (c, fs)) => bif Nat.beq c ci then (match fs[k]? with
      | some v => pGo1 pc lv (v :: st) w
      | none => none) else none
    | _ => none
  | _, _ => none
def pPutF (pc : Nat) (dt : List Nat) (lv : pLv) (st : List Value) (w : pW) : Option pOut := match st, dt with
  | v :: .ref a :: st, [ci, k, _] => match w[a]? with
    | some (.inr (c, fs)) => bif Nat.beq c ci && Nat.ble (k + 1) fs.length && pFits (pTf ci k) v then pGo1 pc lv st (w.set a (.inr (c, fs.set k v))) else none
    | _ => none
  | _, _ => none
def pInB (x : Int32) (n : Nat) : Bool := !(decide (x < 0)) && Nat.ble (x.toNatClampNeg + 1) n
def pALd (pc kd : Nat) (lv : pLv) (st : List Value) (w : pW) : Option pOut := match st with
  | .int x :: .ref a :: st => match w[a]? with
    | some (.inl (k, n, .inl f)) => bif (Nat.beq k kd || (Nat.beq kd 0 && Nat.beq k 6 && Nat.beq a 0)) && pInB x n then pGo1 pc lv (.int (f x.toNatClampNeg) :: st) w else none
    | _ => none
  | _ => none
def pALdL (pc : Nat) (lv : pLv) (st : List Value) (w : pW) : Option pOut := match st with
  | .int x :: .ref a :: st => match w[a]? with
    | some (.inl (k, n, .inr (.inl f))) => bif Nat.beq k 1 && pInB x n then pGo1 pc lv (.long (f x.toNatClampNeg) :: st) w else none
    | _ => none
  | _ => none
def pASt (pc : Nat) (lv : pLv) (st : List Value) (w : pW) : Option pOut := match st with
  | .int y :: .int x :: .ref a :: st => match w[a]? with
    | some (.inl (k, n, .inl f)) => bif Nat.beq k 0 && pInB x n then pGo1 pc lv st (w.set a (.inl (k, n, .inl (upd f x.toNatClampNeg y)))) else none
    | _ => none
  | _ => none
def pAStZ (pc : Nat) (lv : pLv) (st : List Value) (w : pW) : Option pOut := match st with
  | .int y :: .int x :: .ref a :: st => match w[a]? with
    | some (.inl (k, n, .inl f)) => bif Nat.beq k 2 && pInB x n then pGo1 pc lv st (w.set a (.inl (k, n, .inl (upd f x.toNatClampNeg (vp_nar .boolean y))))) else none
    | _ => none
  | _ => none
def pAStL (pc : Nat) (lv : pLv) (st : List Value) (w : pW) : Option pOut := match st with
  | .long y :: .int x :: .ref a :: st => match w[a]? with
    | some (.inl (k, n, .inr (.inl f))) => bif Nat.beq k 1 && pInB x n then pGo1 pc lv st (w.set a (.inl (k, n, .inr (.inl (vp_updL f x.toNatClampNeg y))))) else none
    | _ => none
  | _ => none
def pALen (pc : Nat) (lv : pLv) (st : List Value) (w : pW) : Option pOut := match st with
  | .ref a :: st => match w[a]? with
    | some (.inl (k, x)) => bif Nat.ble k 5 || (Nat.beq k 6 && Nat.beq a 0) then pGo1 pc lv (.int (Int32.ofNat x.1) :: st) w else none
    | _ => none
  | _ => none
def pZero (kd : Nat) : (Nat → Int32) ⊕ (Nat → Int64) ⊕ (Nat → UInt32) ⊕ (Nat → UInt64) ⊕ (Nat → Option Nat) := bif Nat.beq kd 1 then .inr (.inl (fun _ => 0)) else .inl (fun _ => 0)
def pNewA (pc : Nat) (dt : List Nat) (lv : pLv) (st : List Value) (w : pW) : Option pOut := match st, dt with
  | .int x :: st, [k] => bif !(decide (x < 0)) && Nat.ble x.toNatClampNeg 60000000 then pGo1 pc lv (.ref w.length :: st) (w ++ [.inl (k, x.toNatClampNeg, pZero k)]) else none
  | _, _ => none
def pNewO (pc : Nat) (dt : List Nat) (lv : pLv) (st : List Value) (w : pW) : Option pOut := match dt with
  | [ci, n, _] => pGo1 pc lv (.ref w.length :: st) (w ++ [.inr (ci, (List.range n).map (fun j => defaultValue (pTf ci j)))])
  | _ => none
/-- what an array of references may hold: a row of its kind, an object of its class -/
def pHolds (k : Nat) (c : Option pCell) : Bool := match k, c with
  | 3, some (.inl (0, _)) => true
  | 4, some (.inl (1, _)) => true
  | 5, some (.inr (9, _)) => true
  | _, _ => false
def pALdA (pc : Nat) (lv : pLv) (st : List Value) (w : pW) : Option pOut := match st with
  | .int x :: .ref a :: st => match w[a]? with
    | some (.inl (k, n, .inr (.inr (.inr (.inr f))))) => bif Nat.ble 3 k && Nat.ble k 5 && pInB x n then pGo1 pc lv (va_rf (f x.toNatClampNeg) :: st) w else none
    | _ => none
  | _ => none
def pAStA (pc : Nat) (lv : pLv) (st : List Value) (w : pW) : Option pOut := match st with
  | .ref v :: .int x :: .ref a :: st => match w[a]? with
    | some (.inl (k, n, .inr (.inr (.inr (.inr f))))) => bif pHolds k w[v]? && pInB x n then pGo1 pc lv st (w.set a (.inl (k, n, .inr (.inr (.inr (.inr (va_up f x.toNatClampNeg (some v)))))))) else none
    | _ => none
  | .null :: .int x :: .ref a :: st => match w[a]? with
    | some (.inl (k, n, .inr (.inr (.inr (.inr f))))) => bif Nat.ble 3 k && Nat.ble k 5 && pInB x n then pGo1 pc lv st (w.set a (.inl (k, n, .inr (.inr (.inr (.inr (va_up f x.toNatClampNeg none))))))) else none
    | _ => none
  | _ => none
def pZeroA : (Nat → Int32) ⊕ (Nat → Int64) ⊕ (Nat → UInt32) ⊕ (Nat → UInt64) ⊕ (Nat → Option Nat) := .inr (.inr (.inr (.inr (fun _ => none))))
def pANew (pc : Nat) (dt : List Nat) (lv : pLv) (st : List Value) (w : pW) : Option pOut := match st, dt with
  | .int x :: st, [k, _] => bif !(decide (x < 0)) && Nat.ble x.toNatClampNeg 60000000 then pGo1 pc lv (.ref w.length :: st) (w ++ [.inl (k, x.toNatClampNeg, pZeroA)]) else none
  | _, _ => none
/-- rows of ints, each with its row made -/
def pRows (x y p0 : Nat) : pW := .inl (3, x, .inr (.inr (.inr (.inr (fun j => bif Nat.ble (j + 1) x then some (p0 + 1 + j) else none))))) :: List.replicate x (.inl (0, y, .inl (fun _ => 0)))
def pMNew (pc : Nat) (lv : pLv) (st : List Value) (w : pW) : Option pOut := match st with
  | .int y :: .int x :: st => bif decide (0 < x) && !(decide (y < 0)) && Nat.ble x.toNatClampNeg 100000 && Nat.ble y.toNatClampNeg 100000 then pGo1 pc lv (.ref w.length :: st) (w ++ pRows x.toNatClampNeg y.toNatClampNeg w.length) else none
  | _ => none
def pCast (pc : Nat) (lv : pLv) (st : List Value) (w : pW) : Option pOut := match st with
  | .ref a :: st => match w[a]? with
    | some (.inl (0, _)) => pGo1 pc lv (.ref a :: st) w
    | _ => none
  | _ => none
def pIfN (pc : Nat) (dt : List Nat) (lv : pLv) (st : List Value) (w : pW) (y : Bool) : Option pOut := match st with
  | .null :: st => pBr pc dt lv st w y
  | .ref _ :: st => pBr pc dt lv st w (!y)
  | _ => none
def pCat : List Value → Nat
  | [] => 0
  | v :: st => v.category + pCat st
def pOK8 (pc : Nat) (lv : pLv) (st : List Value) (w : pW) : Option pOut := bif Nat.ble (pCat st) 8 then pGo1 (pc + 3) lv st w else none
def pCopy (pc : Nat) (lv : pLv) (st : List Value) (w : pW) : Option pOut := match st with
  | .int n :: .int dp :: .ref a :: .int sp :: .ref a0 :: st => bif !(decide (sp < 0)) && !(decide (dp < 0)) && !(decide (n < 0)) then
      (match w[a0]?, w[a]? with
      | some (.inl (k0, n0, .inl f)), some (.inl (k1, n1, .inl g)) => bif Nat.beq k0 0 && Nat.beq k1 0 && Nat.ble (sp.toNatClampNeg + n.toNatClampNeg) n0 && Nat.ble (dp.toNatClampNeg + n.toNatClampNeg) n1 then
          pOK8 pc lv st (w.set a (.inl (k1, n1, .inl (va_cpy f g sp.toNatClampNeg dp.toNatClampNeg n.toNatClampNeg)))) else none
      | some (.inl (k0, n0, .inr (.inl f))), some (.inl (k1, n1, .inr (.inl g))) => bif Nat.beq k0 1 && Nat.beq k1 1 && Nat.ble (sp.toNatClampNeg + n.toNatClampNeg) n0 && Nat.ble (dp.toNatClampNeg + n.toNatClampNeg) n1 then
          pOK8 pc lv st (w.set a (.inl (k1, n1, .inr (.inl (va_cpy f g sp.toNatClampNeg dp.toNatClampNeg n.toNatClampNeg))))) else none
      | _, _ => none) else none
  | _ => none
def pClone (pc : Nat) (lv : pLv) (st : List Value) (w : pW) : Option pOut := match st with
  | .ref a :: st => match w[a]? with
    | some (.inl (0, n, .inl f)) => bif Nat.ble (pCat st) 8 then pGo1 (pc + 3) lv (.ref w.length :: st) (w ++ [.inl (0, n, .inl f)]) else none
    | _ => none
  | _ => none
/-- n arguments off the stack, and what lies below -/
def pArgs : Nat → List Value → List Value → Option (List Value × List Value)
  | 0, as, st => some (as, st)
  | _ + 1, _, [] => none
  | n + 1, as, v :: st => pArgs n (v :: as) st
def pCallS (j n mx : Nat) (st : List Value) : Option pOut := match pArgs n [] st with
  | some (as, st) => bif Nat.ble (pCat st) 8 && Nat.ble (pCat as) mx then some (.inr (.inl (j, as, st))) else none
  | none => none
def pCallI (j n ci mx : Nat) (st : List Value) (w : pW) : Option pOut := match pArgs n [] st with
  | some (as, .ref a :: st) => match w[a]? with
    | some (.inr (c, _)) => bif Nat.beq c ci && Nat.ble (pCat st) 8 && Nat.ble (pCat (.ref a :: as)) mx then some (.inr (.inl (j, .ref a :: as, st))) else none
    | _ => none
  | _ => none
def pD2l (pc : Nat) (lv : pLv) (st : List Value) (w : pW) : Option pOut := match st with
  | .double x :: st => pOK8 pc lv (.long x.toInt64 :: st) w
  | _ => none
def pNoRef (pc : Nat) (lv : pLv) (st : List Value) (w : pW) : Option pOut := match st with
  | .ref _ :: st => pOK8 pc lv st w
  | _ => none
/-- a call, by its kind: 0 Object's own start; 1 on an object; 2 static; 3 start of an object; 4, 5 the same within a nest; 7 arraycopy; 8 the bits of a double; 9 a row of ints cloned -/
def pCall (pc : Nat) (dt : List Nat) (lv : pLv) (st : List Value) (w : pW) : Option pOut := match dt with
  | [kd, j, n, _, ci, mx] => match kd with
    | 0 => pNoRef pc lv st w
    | 1 => pCallI j n ci mx st w
    | 2 => pCallS j n mx st
    | 3 => pCallI j n ci mx st w
    | 4 => pCallS j n mx st
    | 5 => pCallI j n ci mx st w
    | 7 => pCopy pc lv st w
    | 8 => pD2l pc lv st w
    | 9 => pClone pc lv st w
    | _ => none
  | _ => none
def pDup (pc : Nat) (lv : pLv) (st : List Value) (w : pW) : Option pOut := match st with
  | v :: st => bif Nat.beq v.category 1 then pGo1 pc lv (v :: v :: st) w else none
  | _ => none
def pPop (pc : Nat) (lv : pLv) (st : List Value) (w : pW) : Option pOut := match st with
  | v :: st => bif Nat.beq v.category 1 then pGo1 pc lv st w else none
  | _ => none
def pDup2 (pc : Nat) (lv : pLv) (st : List Value) (w : pW) : Option pOut := match st with
  | v :: st => bif Nat.beq v.category 2 then pGo1 pc lv (v :: v :: st) w else (match st with
    | u :: st => bif Nat.beq v.category 1 && Nat.beq u.category 1 then pGo1 pc lv (v :: u :: v :: u :: st) w else none
    | _ => none)
  | _ => none
def pDiv (pc : Nat) (lv : pLv) (st : List Value) (w : pW) (f : Int32 → Int32 → Int32) : Option pOut := match st with
  | .int y :: .int x :: st => bif decide (y = 0) then none else pGo1 pc lv (.int (f x y) :: st) w
  | _ => none
def pDivL (pc : Nat) (lv : pLv) (st : List Value) (w : pW) (f : Int64 → Int64 → Int64) : Option pOut := match st with
  | .long y :: .long x :: st => bif decide (y = 0) then none else pGo1 pc lv (.long (f x y) :: st) w
  | _ => none
def pDivD (pc : Nat) (lv : pLv) (st : List Value) (w : pW) (f : UInt64 → UInt64 → UInt64) : Option pOut := match st with
  | .double y :: .double x :: st => bif decide ((f x y) &&& 0x7fffffffffffffff ≤ 0x7ff0000000000000) then pGo1 pc lv (.double (f x y) :: st) w else none
  | _ => none
def pTab (lo hi : Int) (dt : List Nat) (lv : pLv) (st : List Value) (w : pW) : Option pOut := match st, dt with
  | .int x :: st, t :: ts => bif decide (x.toInt < lo) || decide (hi < x.toInt) then pGo1 t lv st w else (match ts[(x.toInt - lo).toNat]? with
    | some t => pGo1 t lv st w
    | none => none)
  | _, _ => none
def pK1 (pc : Nat) (dt : List Nat) (lv : pLv) (st : List Value) (w : pW) : Option pOut := match dt with
  | [v] => pGo1 pc lv (.int (Int32.ofNat v) :: st) w
  | _ => none
def pLdc (pc : Nat) (dt : List Nat) (lv : pLv) (st : List Value) (w : pW) : Option pOut := match dt with
  | [v, _] => pGo1 pc lv (.int (Int32.ofNat v) :: st) w
  | _ => none
def pLdc2 (pc : Nat) (dt : List Nat) (lv : pLv) (st : List Value) (w : pW) : Option pOut := match dt with
  | [v, _] => pGo1 pc lv (.long (Int64.ofNat v) :: st) w
  | [v, _, _] => pGo1 pc lv (.double (UInt64.ofNat v) :: st) w
  | _ => none
def pIret (dt : List Nat) (st : List Value) : Option pOut := match st, dt with
  | [.int x], [0] => some (.inr (.inr (some (.int x))))
  | [.int x], [1] => bif decide (x = 0) || decide (x = 1) then some (.inr (.inr (some (.int x)))) else none
  | _, _ => none
def pLret (st : List Value) : Option pOut := match st with
  | [.long x] => some (.inr (.inr (some (.long x))))
  | _ => none
def pAret (st : List Value) : Option pOut := match st with
  | [.ref x] => some (.inr (.inr (some (.ref x))))
  | [.null] => some (.inr (.inr (some .null)))
  | _ => none
def pVret (st : List Value) : Option pOut := match st with
  | [] => some (.inr (.inr none))
  | _ => none
def pGoto (dt : List Nat) (lv : pLv) (st : List Value) (w : pW) : Option pOut := match dt with
  | [t] => pGo1 t lv st w
  | _ => none
def pInc (pc : Nat) (lv : pLv) (k : Nat) (n : Int) (st : List Value) (w : pW) : Option pOut := match pGet lv k with
  | some (.int x) => pGo1 pc (pSet1 lv k (.int (x + Int32.ofInt n))) st w
  | _ => none
/-- branches, by their kind -/
def pIfC (k : Jvm.ClassFile.Cond) : Nat → List Nat → pLv → List Value → pW → Option pOut := match k with
  | .eq => fun pc dt lv st w => pIf pc dt lv st w (fun x => decide (x = 0))
  | .ne => fun pc dt lv st w => pIf pc dt lv st w (fun x => decide (¬ x = 0))
  | .lt => fun pc dt lv st w => pIf pc dt lv st w (fun x => decide (x < 0))
  | .ge => fun pc dt lv st w => pIf pc dt lv st w (fun x => decide (0 ≤ x))
  | .gt => fun pc dt lv st w => pIf pc dt lv st w (fun x => decide (0 < x))
  | .le => fun pc dt lv st w => pIf pc dt lv st w (fun x => decide (x ≤ 0))
def pIfC2 (k : Jvm.ClassFile.Cond) : Nat → List Nat → pLv → List Value → pW → Option pOut := match k with
  | .eq => fun pc dt lv st w => pIf2 pc dt lv st w (fun x y => decide (x = y))
  | .ne => fun pc dt lv st w => pIf2 pc dt lv st w (fun x y => decide (¬ x = y))
  | .lt => fun pc dt lv st w => pIf2 pc dt lv st w (fun x y => decide (x < y))
  | .ge => fun pc dt lv st w => pIf2 pc dt lv st w (fun x y => decide (y ≤ x))
  | .gt => fun pc dt lv st w => pIf2 pc dt lv st w (fun x y => decide (y < x))
  | .le => fun pc dt lv st w => pIf2 pc dt lv st w (fun x y => decide (x ≤ y))
/-- one instruction -/
def pS1 (ins : Instr) : Nat → List Nat → pLv → List Value → pW → Option pOut := match ins with
  | .iconst _ => fun pc dt lv st w => pK1 (pc + 1) dt lv st w
  | .bipush _ => fun pc dt lv st w => pK1 (pc + 2) dt lv st w
  | .sipush _ => fun pc dt lv st w => pK1 (pc + 3) dt lv st w
  | .lconst n => fun pc _ lv st w => pGo1 (pc + 1) lv (.long (Int64.ofNat (n : Nat)) :: st) w
  | .iload_n k => fun pc _ lv st w => pLd1 (pc + 1) lv st w (pGet lv k)
  | .iload k => fun pc _ lv st w => pLd1 (pc + 2) lv st w (pGet lv k)
  | .lload_n k => fun pc _ lv st w => pLdL (pc + 1) lv st w (pGet lv k)
  | .lload k => fun pc _ lv st w => pLdL (pc + 2) lv st w (pGet lv k)
  | .aload_n k => fun pc _ lv st w => pLdA (pc + 1) lv st w (pGet lv k)
  | .aload k => fun pc _ lv st w => pLdA (pc + 2) lv st w (pGet lv k)
  | .dload_n k => fun pc _ lv st w => pLdD (pc + 1) lv st w (pGet lv k)
  | .istore_n k => fun pc _ lv st w => pSt1 (pc + 1) lv k st w
  | .istore k => fun pc _ lv st w => pSt1 (pc + 2) lv k st w
  | .lstore_n k => fun pc _ lv st w => pStL (pc + 1) lv k st w
  | .lstore k => fun pc _ lv st w => pStL (pc + 2) lv k st w
  | .dstore_n k => fun pc _ lv st w => pStD (pc + 1) lv k st w
  | .astore_n k => fun pc _ lv st w => pStA (pc + 1) lv k st w
  | .astore k => fun pc _ lv st w => pStA (pc + 2) lv k st w
  | .aconst_null => fun pc _ lv st w => pGo1 (pc + 1) lv (.null :: st) w
  | .iinc k n => fun pc _ lv st w => pInc (pc + 3) lv k n st w
  | .iadd => fun pc _ lv st w => pII (pc + 1) lv st w (fun x y => .int (x + y))
  | .isub => fun pc _ lv st w => pII (pc + 1) lv st w (fun x y => .int (x - y))
  | .imul => fun pc _ lv st w => pII (pc + 1) lv st w (fun x y => .int (x * y))
  | .iand => fun pc _ lv st w => pII (pc + 1) lv st w (fun x y => .int (x &&& y))
  | .ior => fun pc _ lv st w => pII (pc + 1) lv st w (fun x y => .int (x ||| y))
  | .ishl => fun pc _ lv st w => pII (pc + 1) lv st w (fun x y => .int (x <<< (y &&& 31)))
  | .ishr => fun pc _ lv st w => pII (pc + 1) lv st w (fun x y => .int (x >>> (y &&& 31)))
  | .iushr => fun pc _ lv st w => pII (pc + 1) lv st w (fun x y => .int (x.toUInt32 >>> (y.toUInt32 &&& Int32.toUInt32 31)).toInt32)
  | .ixor => fun pc _ lv st w => pII (pc + 1) lv st w (fun x y => .int (x ^^^ y))
  | .idiv => fun pc _ lv st w => pDiv (pc + 1) lv st w (fun x y => x / y)
  | .irem => fun pc _ lv st w => pDiv (pc + 1) lv st w (fun x y => x - x / y * y)
  | .ineg => fun pc _ lv st w => pI1 (pc + 1) lv st w (fun x => .int (-x))
  | .ladd => fun pc _ lv st w => pLL (pc + 1) lv st w (fun x y => .long (x + y))
  | .lsub => fun pc _ lv st w => pLL (pc + 1) lv st w (fun x y => .long (x - y))
  | .lmul => fun pc _ lv st w => pLL (pc + 1) lv st w (fun x y => .long (x * y))
  | .land => fun pc _ lv st w => pLL (pc + 1) lv st w (fun x y => .long (x &&& y))
  | .lor => fun pc _ lv st w => pLL (pc + 1) lv st w (fun x y => .long (x ||| y))
  | .lxor => fun pc _ lv st w => pLL (pc + 1) lv st w (fun x y => .long (x ^^^ y))
  | .ldiv => fun pc _ lv st w => pDivL (pc + 1) lv st w (fun x y => x / y)
  | .lneg => fun pc _ lv st w => pL1 (pc + 1) lv st w (fun x => .long (-x))
  | .i2l => fun pc _ lv st w => pI1 (pc + 1) lv st w (fun x => .long x.toInt64)
  | .l2i => fun pc _ lv st w => pL1 (pc + 1) lv st w (fun x => .int x.toInt32)
  | .lushr => fun pc _ lv st w => pLI (pc + 1) lv st w (fun x y => .long (x.toUInt64 >>> (y.toInt64.toUInt64 &&& Int64.toUInt64 63)).toInt64)
  | .lshl => fun pc _ lv st w => pLI (pc + 1) lv st w (fun x y => .long (x <<< (y.toInt64 &&& 63)))
  | .lcmp => fun pc _ lv st w => pLL (pc + 1) lv st w (fun x y => .int (lg_cmp x y))
  | .dcmp op => fun pc _ lv st w => pDD (pc + 1) lv st w (fun x y => .int (Op.cmpValue (FP.dcmp x y) op))
  | .ddiv => fun pc _ lv st w => pDivD (pc + 1) lv st w FP.ddiv
  | .dmul => fun pc _ lv st w => pDivD (pc + 1) lv st w FP.dmul
  | .i2d => fun pc _ lv st w => pI1 (pc + 1) lv st w (fun x => .double (FP.i2d x))
  | .l2d => fun pc _ lv st w => pL1 (pc + 1) lv st w (fun x => .double (FP.l2d x))
  | .d2l => fun pc _ lv st w => pD1 (pc + 1) lv st w (fun x => .long (FP.d2l x))
  | .dup => fun pc _ lv st w => pDup (pc + 1) lv st w
  | .pop => fun pc _ lv st w => pPop (pc + 1) lv st w
  | .dup2 => fun pc _ lv st w => pDup2 (pc + 1) lv st w
  | .ifCond k _ => pIfC k
  | .if_icmp k _ => pIfC2 k
  | .ifnull _ => fun pc dt lv st w => pIfN pc dt lv st w true
  | .ifnonnull _ => fun pc dt lv st w => pIfN pc dt lv st w false
  | .goto _ => fun _ dt lv st w => pGoto dt lv st w
  | .tableswitch _ lo hi _ => fun _ dt lv st w => pTab lo hi dt lv st w
  | .ldc _ => fun pc dt lv st w => pLdc (pc + 2) dt lv st w
  | .ldc_w _ => fun pc dt lv st w => pLdc (pc + 3) dt lv st w
  | .ldc2_w _ => fun pc dt lv st w => pLdc2 (pc + 3) dt lv st w
  | .getfield _ => fun pc dt lv st w => pGetF (pc + 3) dt lv st w
  | .putfield _ => fun pc dt lv st w => pPutF (pc + 3) dt lv st w
  | .iaload => fun pc _ lv st w => pALd (pc + 1) 0 lv st w
  | .baload => fun pc _ lv st w => pALd (pc + 1) 2 lv st w
  | .laload => fun pc _ lv st w => pALdL (pc + 1) lv st w
  | .iastore => fun pc _ lv st w => pASt (pc + 1) lv st w
  | .bastore => fun pc _ lv st w => pAStZ (pc + 1) lv st w
  | .lastore => fun pc _ lv st w => pAStL (pc + 1) lv st w
  | .aaload => fun pc _ lv st w => pALdA (pc + 1) lv st w
  | .aastore => fun pc _ lv st w => pAStA (pc + 1) lv st w
  | .anewarray _ => fun pc dt lv st w => pANew (pc + 3) dt lv st w
  | .multianewarray _ _ => fun pc _ lv st w => pMNew (pc + 4) lv st w
  | .checkcast _ => fun pc _ lv st w => pCast (pc + 3) lv st w
  | .arraylength => fun pc _ lv st w => pALen (pc + 1) lv st w
  | .newarray _ => fun pc dt lv st w => pNewA (pc + 2) dt lv st w
  | .new _ => fun pc dt lv st w => pNewO (pc + 3) dt lv st w
  | .invokevirtual _ => fun pc dt lv st w => pCall pc dt lv st w
  | .invokespecial _ => fun pc dt lv st w => pCall pc dt lv st w
  | .invokestatic _ => fun pc dt lv st w => pCall pc dt lv st w
  | .ireturn => fun _ dt _ st _ => pIret dt st
  | .lreturn => fun _ _ _ st _ => pLret st
  | .areturn => fun _ _ _ st _ => pAret st
  | .return_ => fun _ _ _ st _ => pVret st
  | _ => fun _ _ _ _ _ => none
/-- what becomes of one instruction, when 'go' runs the rest -/
def pThen (go : Nat → pSt → Option (Option Value × pW)) (i : Nat) (q : pSt) (o : Option pOut) : Option (Option Value × pW) := match o with
  | none => none
  | some (.inl q1) => go i q1
  | some (.inr (.inl (j, as, rest))) => (match go j (0, lv_args 0 as, [], q.2.2.2) with
    | none => none
    | some (r, w1) => go i (q.1 + 3, q.2.1, r.toList ++ rest, w1))
  | some (.inr (.inr r)) => some (r, q.2.2.2)
def pStep (go : Nat → pSt → Option (Option Value × pW)) (i : Nat) (q : pSt) : Option (Option Value × pW) := match pI i q.1 with
  | none => none
  | some (ins, dt) => pThen go i q (pS1 ins q.1 dt q.2.1 q.2.2.1 q.2.2.2)
/-- a run of method i from a state, of at most n instructions one behind another: the answer, and the world behind it -/
noncomputable def pGo (n : Nat) : Nat → pSt → Option (Option Value × pW) := Nat.rec (fun _ _ => none) (fun _ ih => pStep ih) n
theorem pGo_succ (n i : Nat) (q : pSt) : pGo (n + 1) i q = pStep (pGo n) i q := rfl
theorem pGo_zero (i : Nat) (q : pSt) : pGo 0 i q = none := rfl
