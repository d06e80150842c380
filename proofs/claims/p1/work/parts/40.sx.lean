/-! A MACHINE FOR THE KERNEL: values are numbers or polynomials in what isn't known, cells lie in trees, instructions are closed leaves that hand on to the next. By program (wip/tools/mk40.py). -/
abbrev zM : Type := List Nat
abbrev zP : Type := List (Int × zM)
/-- an int, a place, a long, a polynomial that is an int, one that is a long, nothing known -/
abbrev zV : Type := Nat ⊕ (Nat ⊕ (Nat ⊕ (zP ⊕ (zP ⊕ Unit))))
abbrev zVd : zV := .inr (.inr (.inr (.inr (.inr ()))))
abbrev zC : Type := (Nat × Nat × Lean.RArray zV) ⊕ (Nat × List zV)
abbrev zSgn : Type := Bool × Bool × Bool
/-- bounds of what isn't known, signs of polynomials -/
abbrev zD : Type := List (Int × Int) × List (zP × zSgn)
abbrev zW : Type := zD × Nat × Lean.RArray zC
abbrev zR : Type := Option (Option zV × zW)
abbrev zKn : Type := List zV → List zV → zW → zR
abbrev zE : Type := (Nat → zKn) × (Nat → List zV → List zV → List zV → zW → zKn → zR) × (Option zV → zW → zR)
abbrev zF : Type := zKn → zE → zKn
-- polynomials
def zMeq (a b : zM) : Bool := match a, b with
  | [], [] => true
  | x :: a, y :: b => Nat.beq x y && zMeq a b
  | _, _ => false
/-- the order of monomials: some order -/
def zMlt (a b : zM) : Bool := match a, b with
  | _, [] => false
  | [], _ :: _ => true
  | x :: a, y :: b => bif Nat.beq x y then zMlt a b else Nat.ble (x + 1) y
def zMins (v : Nat) (m : zM) : zM := match m with
  | [] => [v]
  | x :: m => bif Nat.ble v x then v :: x :: m else x :: zMins v m
def zMmul (a b : zM) : zM := match a with
  | [] => b
  | v :: a => zMins v (zMmul a b)
def zIz (z : Int) : Bool := match z with
  | .ofNat n => Nat.beq n 0
  | .negSucc _ => false
def zIneg (z : Int) : Bool := match z with
  | .ofNat _ => false
  | .negSucc _ => true
def zIpos (z : Int) : Bool := match z with
  | .ofNat n => !(Nat.beq n 0)
  | .negSucc _ => false
def zIns (c : Int) (m : zM) (p : zP) : zP := match p with
  | [] => bif zIz c then [] else [(c, m)]
  | t :: p => bif zMeq m t.2 then (bif zIz (c + t.1) then p else (c + t.1, m) :: p) else (bif zMlt m t.2 then (c, m) :: t :: p else t :: zIns c m p)
def zAdd (p q : zP) : zP := match p with
  | [] => q
  | t :: p => zIns t.1 t.2 (zAdd p q)
/-- a term times a polynomial, put to another -/
def zTm (c : Int) (m : zM) (q r : zP) : zP := match q with
  | [] => r
  | t :: q => zIns (c * t.1) (zMmul m t.2) (zTm c m q r)
def zMul (p q : zP) : zP := match p with
  | [] => []
  | t :: p => zTm t.1 t.2 q (zMul p q)
def zSub (p q : zP) : zP := zTm (-1) [] q p
-- bounds
def zIa (z : Int) : Int := match z with
  | .ofNat n => .ofNat n
  | .negSucc n => .ofNat (n + 1)
def zLe (a b : Int) : Bool := !(zIneg (b - a))
def zBv (D : zD) (v : Nat) : Int × Int := match D.1[v]? with
  | some x => x
  | none => (-4294967296, 4294967296)
/-- the product of the greatest sizes -/
def zMa (D : zD) (m : zM) : Int := match m with
  | [] => 1
  | v :: m => (bif zLe (zIa (zBv D v).1) (zIa (zBv D v).2) then zIa (zBv D v).2 else zIa (zBv D v).1) * zMa D m
/-- when none can be less than 0: the product of the least, of the greatest -/
def zMp (D : zD) (m : zM) : Option (Int × Int) := match m with
  | [] => some (1, 1)
  | v :: m => bif zIneg (zBv D v).1 then none else (match zMp D m with
    | some x => some ((zBv D v).1 * x.1, (zBv D v).2 * x.2)
    | none => none)
def zMb (D : zD) (m : zM) : Int × Int := match m with
  | [] => (1, 1)
  | [v] => zBv D v
  | _ => (match zMp D m with
    | some x => x
    | none => (-(zMa D m), zMa D m))
def zPb (D : zD) (p : zP) : Int × Int := match p with
  | [] => (0, 0)
  | t :: p => bif zIneg t.1 then (t.1 * (zMb D t.2).2 + (zPb D p).1, t.1 * (zMb D t.2).1 + (zPb D p).2) else (t.1 * (zMb D t.2).1 + (zPb D p).1, t.1 * (zMb D t.2).2 + (zPb D p).2)
def zPeq (p q : zP) : Bool := match p, q with
  | [], [] => true
  | t :: p, u :: q => zIz (t.1 - u.1) && zMeq t.2 u.2 && zPeq p q
  | _, _ => false
def zLook (T : List (zP × zSgn)) (p : zP) : Option zSgn := match T with
  | [] => none
  | e :: T => bif zPeq e.1 p then some e.2 else zLook T p
def zSg (D : zD) (p : zP) : zSgn := match zLook D.2 p with
  | some s => s
  | none => (zIneg (zPb D p).1, !(zIpos (zPb D p).1) && !(zIneg (zPb D p).2), zIpos (zPb D p).2)
-- values
def zZ (n : Nat) : Int := bif Nat.ble 2147483648 n then Int.subNatNat n 4294967296 else Int.ofNat n
def zZl (n : Nat) : Int := bif Nat.ble 9223372036854775808 n then Int.subNatNat n 18446744073709551616 else Int.ofNat n
def zN (z : Int) : Nat := (z % 4294967296).toNat
def zNl (z : Int) : Nat := (z % 18446744073709551616).toNat
def zPi (v : zV) : Option zP := match v with
  | .inl n => some (zIns (zZ n) [] [])
  | .inr (.inr (.inr (.inl p))) => some p
  | _ => none
def zPl (v : zV) : Option zP := match v with
  | .inr (.inr (.inl n)) => some (zIns (zZl n) [] [])
  | .inr (.inr (.inr (.inr (.inl p)))) => some p
  | _ => none
def zVi (p : zP) : zV := match p with
  | [] => .inl 0
  | [(c, [])] => .inl (zN c)
  | _ => .inr (.inr (.inr (.inl p)))
def zVl (p : zP) : zV := match p with
  | [] => .inr (.inr (.inl 0))
  | [(c, [])] => .inr (.inr (.inl (zNl c)))
  | _ => .inr (.inr (.inr (.inr (.inl p))))
def zII (f : zP → zP → zP) (x y : zV) : Option zV := match zPi x, zPi y with
  | some p, some q => some (zVi (f p q))
  | _, _ => none
def zLL (f : zP → zP → zP) (x y : zV) : Option zV := match zPl x, zPl y with
  | some p, some q => some (zVl (f p q))
  | _, _ => none
def zIn (D : zD) (h : Int) (p : zP) : Bool := zLe (-h) (zPb D p).1 && zLe ((zPb D p).2 + 1) h
def zU : zSgn := (true, true, true)
def zCmp (D : zD) (x y : zV) : zSgn := match zPi x, zPi y with
  | some p, some q => bif zIn D 2147483648 p && zIn D 2147483648 q then zSg D (zSub p q) else zU
  | _, _ => zU
def zCmpl (D : zD) (x y : zV) : zSgn := match zPl x, zPl y with
  | some p, some q => bif zIn D 9223372036854775808 p && zIn D 9223372036854775808 q then zSg D (zSub p q) else zU
  | _, _ => zU
/-- what a branch does that is taken at these signs: not taken, taken, not known -/
def zBr (t : zSgn) (s : zSgn) : Option Bool := bif (!s.1 || !t.1) && ((!s.2.1 || !t.2.1) && (!s.2.2 || !t.2.2)) then some false else bif (!s.1 || t.1) && ((!s.2.1 || t.2.1) && (!s.2.2 || t.2.2)) then some true else none
def zLc (s : zSgn) : Option Nat := match s with
  | (true, false, false) => some 4294967295
  | (false, true, false) => some 0
  | (false, false, true) => some 1
  | _ => none
def zI2l (D : zD) (v : zV) : Option zV := match v with
  | .inr (.inr (.inr (.inl p))) => bif zIn D 2147483648 p then some (.inr (.inr (.inr (.inr (.inl p))))) else none
  | _ => none
def zL2i (v : zV) : Option zV := match v with
  | .inr (.inr (.inr (.inr (.inl p)))) => some (zVi p)
  | _ => none
-- lists
noncomputable def zGetK (i : Nat) : List zV → (zV → zR) → zR := Nat.rec (motive := fun _ => List zV → (zV → zR) → zR) (fun L c => List.rec (motive := fun _ => zR) none (fun a _ _ => c a) L) (fun _ ih L c => List.rec (motive := fun _ => zR) none (fun _ t _ => ih t c) L) i
noncomputable def zKill (a : zV) (f : zV → zR) : zR := Sum.rec (motive := fun _ => zR) (fun n => f (.inl n)) (fun z => Sum.rec (motive := fun _ => zR) (fun r => f (.inr (.inl r))) (fun z => Sum.rec (motive := fun _ => zR) (fun _ => f zVd) (fun z => Sum.rec (motive := fun _ => zR) (fun p => f (.inr (.inr (.inr (.inl p))))) (fun _ => f zVd) z) z) z) a
noncomputable def zSet1 (i : Nat) (v : zV) : List zV → (List zV → zR) → zR := Nat.rec (motive := fun _ => List zV → (List zV → zR) → zR) (fun L c => List.rec (motive := fun _ => zR) (c []) (fun _ t _ => c (v :: t)) L) (fun i ih L c => List.rec (motive := fun _ => zR) (c []) (fun a t _ => Nat.rec (motive := fun _ => zR) (zKill a (fun b => ih t (fun u => c (b :: u)))) (fun _ _ => ih t (fun u => c (a :: u))) i) L) i
noncomputable def zSet2 (i : Nat) (v : zV) : List zV → (List zV → zR) → zR := Nat.rec (motive := fun _ => List zV → (List zV → zR) → zR) (fun L c => List.rec (motive := fun _ => zR) (c []) (fun _ t _ => List.rec (motive := fun _ => zR) (c [v]) (fun _ t _ => c (v :: zVd :: t)) t) L) (fun i ih L c => List.rec (motive := fun _ => zR) (c []) (fun a t _ => Nat.rec (motive := fun _ => zR) (zKill a (fun b => ih t (fun u => c (b :: u)))) (fun _ _ => ih t (fun u => c (a :: u))) i) L) i
noncomputable def zSetF (i : Nat) (v : zV) : List zV → (List zV → zR) → zR := Nat.rec (motive := fun _ => List zV → (List zV → zR) → zR) (fun L c => List.rec (motive := fun _ => zR) none (fun _ t _ => c (v :: t)) L) (fun _ ih L c => List.rec (motive := fun _ => zR) none (fun a t _ => ih t (fun u => c (a :: u))) L) i
-- trees
noncomputable def zSetT {α : Type} (k : Nat) (v : α) (t : Lean.RArray α) : Nat → Nat → (Lean.RArray α → zR) → zR := Lean.RArray.rec (motive := fun _ => Nat → Nat → (Lean.RArray α → zR) → zR)
  (fun old lo hi c => Bool.rec (motive := fun _ => zR) (Bool.rec (motive := fun _ => zR) (c (.branch k (.leaf old) (.branch (k + 1) (.leaf v) (.leaf old)))) (c (.branch k (.leaf old) (.leaf v))) (Nat.beq (k + 1) hi)) (Bool.rec (motive := fun _ => zR) (c (.branch (k + 1) (.leaf v) (.leaf old))) (c (.leaf v)) (Nat.beq (k + 1) hi)) (Nat.beq k lo))
  (fun p l r ihl ihr lo hi c => Bool.rec (motive := fun _ => zR) (ihl lo p (fun l' => c (.branch p l' r))) (ihr p hi (fun r' => c (.branch p l r'))) (Nat.ble p k)) t
/-- the same leaf: nothing to do -/
noncomputable def zSame (a b : zV) (x y : zR) : zR := Sum.rec (motive := fun _ => zR) (fun m => Sum.rec (motive := fun _ => zR) (fun n => Bool.rec (motive := fun _ => zR) y x (Nat.beq m n)) (fun _ => y) b) (fun _ => y) a
noncomputable def zSetA (k : Nat) (v : zV) (t : Lean.RArray zV) : Nat → Nat → (Lean.RArray zV → zR) → zR := Lean.RArray.rec (motive := fun _ => Nat → Nat → (Lean.RArray zV → zR) → zR)
  (fun old lo hi c => zSame old v (c (.leaf old)) (Bool.rec (motive := fun _ => zR) (Bool.rec (motive := fun _ => zR) (c (.branch k (.leaf old) (.branch (k + 1) (.leaf v) (.leaf old)))) (c (.branch k (.leaf old) (.leaf v))) (Nat.beq (k + 1) hi)) (Bool.rec (motive := fun _ => zR) (c (.branch (k + 1) (.leaf v) (.leaf old))) (c (.leaf v)) (Nat.beq (k + 1) hi)) (Nat.beq k lo)))
  (fun p l r ihl ihr lo hi c => Bool.rec (motive := fun _ => zR) (ihl lo p (fun l' => c (.branch p l' r))) (ihr p hi (fun r' => c (.branch p l r'))) (Nat.ble p k)) t
def zTop : Nat := 0
noncomputable def zPut (a : Nat) (x : zC) (W : zW) (c : zW → zR) : zR := zSetT a x W.2.2 0 zTop (fun t => c (W.1, W.2.1, t))
noncomputable def zNew (x : zC) (W : zW) (c : zW → zR) : zR := zSetT W.2.1 x W.2.2 0 zTop (fun t => c (W.1, W.2.1 + 1, t))
/-- whether all at lo, lo + 1 .. (n of them) are the number c -/
noncomputable def zAll (t : Lean.RArray zV) (c : Nat) (lo n : Nat) : Bool := Nat.rec (motive := fun _ => Bool) true (fun j ih => Sum.rec (motive := fun _ => Bool) (fun m => Nat.beq m c && ih) (fun _ => false) (t.get (lo + j))) n
noncomputable def zLdS (D : zD) (x : zV) (n : Nat) (t : Lean.RArray zV) : Option zV := match x with
  | .inr (.inr (.inr (.inl p))) => bif zLe 0 (zPb D p).1 && (zLe ((zPb D p).2 + 1) (Int.ofNat n) && zLe (zPb D p).1 (zPb D p).2) then (match t.get (zPb D p).1.toNat with
    | .inl c => bif zAll t c (zPb D p).1.toNat ((zPb D p).2 + 1 - (zPb D p).1).toNat then some (.inl c) else none
    | _ => none) else none
  | _ => none
noncomputable def zCat (S : List zV) : Nat := List.rec (motive := fun _ => Nat) 0 (fun v _ ih => Nat.add (Sum.rec (motive := fun _ => Nat) (fun _ => 1) (fun z => Sum.rec (motive := fun _ => Nat) (fun _ => 1) (fun z => Sum.rec (motive := fun _ => Nat) (fun _ => 2) (fun z => Sum.rec (motive := fun _ => Nat) (fun _ => 1) (fun z => Sum.rec (motive := fun _ => Nat) (fun _ => 2) (fun _ => 1000) z) z) z) z) v) ih) S
noncomputable def zArgs (n : Nat) : List zV → List zV → (List zV → List zV → zR) → zR := Nat.rec (motive := fun _ => List zV → List zV → (List zV → List zV → zR) → zR) (fun as S c => c as S) (fun _ ih as S c => List.rec (motive := fun _ => zR) none (fun v S _ => ih (v :: as) S c) S) n
def zDs : List zV := [zVd, zVd, zVd, zVd, zVd, zVd, zVd, zVd, zVd, zVd, zVd, zVd, zVd, zVd, zVd, zVd, zVd, zVd, zVd, zVd, zVd, zVd, zVd, zVd]
noncomputable def zLong (v : zV) (x y : zR) : zR := Sum.rec (motive := fun _ => zR) (fun _ => y) (fun z => Sum.rec (motive := fun _ => zR) (fun _ => y) (fun z => Sum.rec (motive := fun _ => zR) (fun _ => x) (fun z => Sum.rec (motive := fun _ => zR) (fun _ => y) (fun z => Sum.rec (motive := fun _ => zR) (fun _ => x) (fun _ => none) z) z) z) z) v
noncomputable def zLoc (as : List zV) : (List zV → zR) → zR := List.rec (motive := fun _ => (List zV → zR) → zR) (fun c => c zDs) (fun v _ ih c => ih (fun L => zLong v (c (v :: zVd :: L)) (c (v :: L)))) as
-- the run
noncomputable def zEx (c : List zF) : zE → zKn := List.rec (motive := fun _ => zE → zKn) (fun _ _ _ _ => none) (fun x _ ih E L S W => x (ih E) E L S W) c
noncomputable def zRun (MM : Lean.RArray (Lean.RArray (zE → zKn))) (n : Nat) : Lean.RArray (zE → zKn) → (Option zV → zW → zR) → Nat → zKn := Nat.rec (motive := fun _ => Lean.RArray (zE → zKn) → (Option zV → zW → zR) → Nat → zKn) (fun _ _ _ _ _ _ => none) (fun _ ih M kr t L S W => M.get t (ih M kr, fun j as L S W kn => zLoc as (fun L1 => ih (MM.get j) (fun r W1 => Option.rec (motive := fun _ => zR) (kn L S W1) (fun v => kn L (v :: S) W1) r) 0 L1 [] W), kr) L S W) n
def zNil : zKn := fun _ _ _ => none
-- leaves
def zlt32 (m n : Nat) : Bool := Nat.ble (Nat.add 1 (Nat.mod (Nat.add m 2147483648) 4294967296)) (Nat.mod (Nat.add n 2147483648) 4294967296)
def zle32 (m n : Nat) : Bool := Nat.ble (Nat.mod (Nat.add m 2147483648) 4294967296) (Nat.mod (Nat.add n 2147483648) 4294967296)
def zle0 (n : Nat) : Bool := Nat.beq n 0 || Nat.ble 2147483648 n
def zle64 (m n : Nat) : Bool := Nat.ble (Nat.mod (Nat.add m 9223372036854775808) 18446744073709551616) (Nat.mod (Nat.add n 9223372036854775808) 18446744073709551616)
noncomputable def zIf (c : Bool) (x y : zR) : zR := Bool.rec (motive := fun _ => zR) x y c
noncomputable def zNf (t : Nat) (f : Nat → zR) : zR := Nat.rec (motive := fun _ => zR) (f 0) (fun m _ => f (Nat.succ m)) t
def zq_k (v : Nat) (kn : zKn) (E : zE) (L S : List zV) (W : zW) : zR := kn L (.inl v :: S) W
def zq_kl (v : Nat) (kn : zKn) (E : zE) (L S : List zV) (W : zW) : zR := kn L (.inr (.inr (.inl v)) :: S) W
noncomputable def zTi (v : zV) (r : zR) : zR := Sum.rec (motive := fun _ => zR) (fun _ => r) (fun z => Sum.rec (motive := fun _ => zR) (fun _ => none) (fun z => Sum.rec (motive := fun _ => zR) (fun _ => none) (fun z => Sum.rec (motive := fun _ => zR) (fun _ => r) (fun _ => none) z) z) z) v
noncomputable def zTr (v : zV) (r : zR) : zR := Sum.rec (motive := fun _ => zR) (fun _ => none) (fun z => Sum.rec (motive := fun _ => zR) (fun _ => r) (fun _ => none) z) v
noncomputable def zTl (v : zV) (r : zR) : zR := Sum.rec (motive := fun _ => zR) (fun _ => none) (fun z => Sum.rec (motive := fun _ => zR) (fun _ => none) (fun z => Sum.rec (motive := fun _ => zR) (fun _ => r) (fun z => Sum.rec (motive := fun _ => zR) (fun _ => none) (fun z => Sum.rec (motive := fun _ => zR) (fun _ => r) (fun _ => none) z) z) z) z) v
noncomputable def zq_ild (i : Nat) (kn : zKn) (E : zE) (L S : List zV) (W : zW) : zR := zGetK i L (fun v => zTi v (kn L (v :: S) W))
noncomputable def zq_ald (i : Nat) (kn : zKn) (E : zE) (L S : List zV) (W : zW) : zR := zGetK i L (fun v => zTr v (kn L (v :: S) W))
noncomputable def zq_lld (i : Nat) (kn : zKn) (E : zE) (L S : List zV) (W : zW) : zR := zGetK i L (fun v => zTl v (kn L (v :: S) W))
noncomputable def zq_ist (i : Nat) (kn : zKn) (E : zE) (L S : List zV) (W : zW) : zR := List.rec (motive := fun _ => zR) none (fun v S _ => zTi v (zSet1 i v L (fun L => kn L S W))) S
noncomputable def zq_ast (i : Nat) (kn : zKn) (E : zE) (L S : List zV) (W : zW) : zR := List.rec (motive := fun _ => zR) none (fun v S _ => zTr v (zSet1 i v L (fun L => kn L S W))) S
noncomputable def zq_lst (i : Nat) (kn : zKn) (E : zE) (L S : List zV) (W : zW) : zR := List.rec (motive := fun _ => zR) none (fun v S _ => zTl v (zSet2 i v L (fun L => kn L S W))) S
noncomputable def zOp (o : Option zV) (kn : zKn) (L S : List zV) (W : zW) : zR := Option.rec (motive := fun _ => zR) none (fun v => kn L (v :: S) W) o
noncomputable def zq_inc (k c : Nat) (kn : zKn) (E : zE) (L S : List zV) (W : zW) : zR := zGetK k L (fun v => Sum.rec (motive := fun _ => zR) (fun n => zNf (Nat.mod (Nat.add n c) 4294967296) (fun n => zSet1 k (.inl n) L (fun L => kn L S W))) (fun _ => Option.rec (motive := fun _ => zR) none (fun v => zSet1 k v L (fun L => kn L S W)) (zII zAdd v (.inl c))) v)
noncomputable def zq_add (kn : zKn) (E : zE) (L S : List zV) (W : zW) : zR := List.rec (motive := fun _ => zR) none (fun y S _ => List.rec (motive := fun _ => zR) none (fun x S _ => Sum.rec (motive := fun _ => zR) (fun m => Sum.rec (motive := fun _ => zR) (fun n => zNf (Nat.mod (Nat.add m n) 4294967296) (fun n => kn L (.inl n :: S) W)) (fun _ => zOp (zII zAdd x y) kn L S W) y) (fun _ => zOp (zII zAdd x y) kn L S W) x) S) S
noncomputable def zq_sub (kn : zKn) (E : zE) (L S : List zV) (W : zW) : zR := List.rec (motive := fun _ => zR) none (fun y S _ => List.rec (motive := fun _ => zR) none (fun x S _ => Sum.rec (motive := fun _ => zR) (fun m => Sum.rec (motive := fun _ => zR) (fun n => zNf (Nat.mod (Nat.add m (Nat.sub 4294967296 n)) 4294967296) (fun n => kn L (.inl n :: S) W)) (fun _ => zOp (zII zSub x y) kn L S W) y) (fun _ => zOp (zII zSub x y) kn L S W) x) S) S
noncomputable def zq_mul (kn : zKn) (E : zE) (L S : List zV) (W : zW) : zR := List.rec (motive := fun _ => zR) none (fun y S _ => List.rec (motive := fun _ => zR) none (fun x S _ => Sum.rec (motive := fun _ => zR) (fun m => Sum.rec (motive := fun _ => zR) (fun n => zNf (Nat.mod (Nat.mul m n) 4294967296) (fun n => kn L (.inl n :: S) W)) (fun _ => zOp (zII zMul x y) kn L S W) y) (fun _ => zOp (zII zMul x y) kn L S W) x) S) S
noncomputable def zq_and (kn : zKn) (E : zE) (L S : List zV) (W : zW) : zR := List.rec (motive := fun _ => zR) none (fun y S _ => List.rec (motive := fun _ => zR) none (fun x S _ => Sum.rec (motive := fun _ => zR) (fun m => Sum.rec (motive := fun _ => zR) (fun n => zNf (Nat.land m n) (fun n => kn L (.inl n :: S) W)) (fun _ => none) y) (fun _ => none) x) S) S
noncomputable def zq_xor (kn : zKn) (E : zE) (L S : List zV) (W : zW) : zR := List.rec (motive := fun _ => zR) none (fun y S _ => List.rec (motive := fun _ => zR) none (fun x S _ => Sum.rec (motive := fun _ => zR) (fun m => Sum.rec (motive := fun _ => zR) (fun n => zNf (Nat.xor m n) (fun n => kn L (.inl n :: S) W)) (fun _ => none) y) (fun _ => none) x) S) S
noncomputable def zq_div (kn : zKn) (E : zE) (L S : List zV) (W : zW) : zR := List.rec (motive := fun _ => zR) none (fun y S _ => List.rec (motive := fun _ => zR) none (fun x S _ => Sum.rec (motive := fun _ => zR) (fun m => Sum.rec (motive := fun _ => zR) (fun n => Bool.rec (motive := fun _ => zR) (zNf (zN (Int.tdiv (zZ m) (zZ n))) (fun n => kn L (.inl n :: S) W)) none (Nat.beq n 0)) (fun _ => none) y) (fun _ => none) x) S) S
noncomputable def zq_rem (kn : zKn) (E : zE) (L S : List zV) (W : zW) : zR := List.rec (motive := fun _ => zR) none (fun y S _ => List.rec (motive := fun _ => zR) none (fun x S _ => Sum.rec (motive := fun _ => zR) (fun m => Sum.rec (motive := fun _ => zR) (fun n => Bool.rec (motive := fun _ => zR) (zNf (zN (Int.sub (zZ m) (Int.mul (Int.tdiv (zZ m) (zZ n)) (zZ n)))) (fun n => kn L (.inl n :: S) W)) none (Nat.beq n 0)) (fun _ => none) y) (fun _ => none) x) S) S
noncomputable def zq_neg (kn : zKn) (E : zE) (L S : List zV) (W : zW) : zR := List.rec (motive := fun _ => zR) none (fun x S _ => Sum.rec (motive := fun _ => zR) (fun m => zNf (Nat.mod (Nat.sub 4294967296 m) 4294967296) (fun m => kn L (.inl m :: S) W)) (fun _ => zOp (zII zSub (.inl 0) x) kn L S W) x) S
noncomputable def zNo (v : zV) (f : Nat → zR) (g : zR) : zR := Sum.rec (motive := fun _ => zR) (fun _ => none) (fun z => Sum.rec (motive := fun _ => zR) (fun _ => none) (fun z => Sum.rec (motive := fun _ => zR) f (fun _ => g) z) z) v
noncomputable def zq_ladd (kn : zKn) (E : zE) (L S : List zV) (W : zW) : zR := List.rec (motive := fun _ => zR) none (fun y S _ => List.rec (motive := fun _ => zR) none (fun x S _ => zNo x (fun m => zNo y (fun n => zNf (Nat.mod (Nat.add m n) 18446744073709551616) (fun n => kn L (.inr (.inr (.inl n)) :: S) W)) (zOp (zLL zAdd x y) kn L S W)) (zOp (zLL zAdd x y) kn L S W)) S) S
noncomputable def zq_lsub (kn : zKn) (E : zE) (L S : List zV) (W : zW) : zR := List.rec (motive := fun _ => zR) none (fun y S _ => List.rec (motive := fun _ => zR) none (fun x S _ => zNo x (fun m => zNo y (fun n => zNf (Nat.mod (Nat.add m (Nat.sub 18446744073709551616 n)) 18446744073709551616) (fun n => kn L (.inr (.inr (.inl n)) :: S) W)) (zOp (zLL zSub x y) kn L S W)) (zOp (zLL zSub x y) kn L S W)) S) S
noncomputable def zq_lmul (kn : zKn) (E : zE) (L S : List zV) (W : zW) : zR := List.rec (motive := fun _ => zR) none (fun y S _ => List.rec (motive := fun _ => zR) none (fun x S _ => zNo x (fun m => zNo y (fun n => zNf (Nat.mod (Nat.mul m n) 18446744073709551616) (fun n => kn L (.inr (.inr (.inl n)) :: S) W)) (zOp (zLL zMul x y) kn L S W)) (zOp (zLL zMul x y) kn L S W)) S) S
noncomputable def zq_land (kn : zKn) (E : zE) (L S : List zV) (W : zW) : zR := List.rec (motive := fun _ => zR) none (fun y S _ => List.rec (motive := fun _ => zR) none (fun x S _ => zNo x (fun m => zNo y (fun n => zNf (Nat.land m n) (fun n => kn L (.inr (.inr (.inl n)) :: S) W)) none) none) S) S
noncomputable def zq_lor (kn : zKn) (E : zE) (L S : List zV) (W : zW) : zR := List.rec (motive := fun _ => zR) none (fun y S _ => List.rec (motive := fun _ => zR) none (fun x S _ => zNo x (fun m => zNo y (fun n => zNf (Nat.lor m n) (fun n => kn L (.inr (.inr (.inl n)) :: S) W)) none) none) S) S
noncomputable def zq_lxor (kn : zKn) (E : zE) (L S : List zV) (W : zW) : zR := List.rec (motive := fun _ => zR) none (fun y S _ => List.rec (motive := fun _ => zR) none (fun x S _ => zNo x (fun m => zNo y (fun n => zNf (Nat.xor m n) (fun n => kn L (.inr (.inr (.inl n)) :: S) W)) none) none) S) S
noncomputable def zq_ldiv (kn : zKn) (E : zE) (L S : List zV) (W : zW) : zR := List.rec (motive := fun _ => zR) none (fun y S _ => List.rec (motive := fun _ => zR) none (fun x S _ => zNo x (fun m => zNo y (fun n => Bool.rec (motive := fun _ => zR) (zNf (zNl (Int.tdiv (zZl m) (zZl n))) (fun n => kn L (.inr (.inr (.inl n)) :: S) W)) none (Nat.beq n 0)) none) none) S) S
noncomputable def zq_lneg (kn : zKn) (E : zE) (L S : List zV) (W : zW) : zR := List.rec (motive := fun _ => zR) none (fun x S _ => zNo x (fun m => zNf (Nat.mod (Nat.sub 18446744073709551616 m) 18446744073709551616) (fun m => kn L (.inr (.inr (.inl m)) :: S) W)) (zOp (zLL zSub (.inr (.inr (.inl 0))) x) kn L S W)) S
noncomputable def zq_i2l (kn : zKn) (E : zE) (L S : List zV) (W : zW) : zR := List.rec (motive := fun _ => zR) none (fun x S _ => Sum.rec (motive := fun _ => zR) (fun m => zNf (Bool.rec (motive := fun _ => Nat) m (Nat.add m 18446744069414584320) (Nat.ble 2147483648 m)) (fun m => kn L (.inr (.inr (.inl m)) :: S) W)) (fun _ => zOp (zI2l W.1 x) kn L S W) x) S
noncomputable def zq_l2i (kn : zKn) (E : zE) (L S : List zV) (W : zW) : zR := List.rec (motive := fun _ => zR) none (fun x S _ => zNo x (fun m => zNf (Nat.mod m 4294967296) (fun m => kn L (.inl m :: S) W)) (zOp (zL2i x) kn L S W)) S
noncomputable def zq_lushr (kn : zKn) (E : zE) (L S : List zV) (W : zW) : zR := List.rec (motive := fun _ => zR) none (fun y S _ => List.rec (motive := fun _ => zR) none (fun x S _ => zNo x (fun m => Sum.rec (motive := fun _ => zR) (fun n => zNf (Nat.shiftRight m (Nat.mod n 64)) (fun n => kn L (.inr (.inr (.inl n)) :: S) W)) (fun _ => none) y) none) S) S
noncomputable def zq_lshl (kn : zKn) (E : zE) (L S : List zV) (W : zW) : zR := List.rec (motive := fun _ => zR) none (fun y S _ => List.rec (motive := fun _ => zR) none (fun x S _ => zNo x (fun m => Sum.rec (motive := fun _ => zR) (fun n => zNf (Nat.mod (Nat.shiftLeft m (Nat.mod n 64)) 18446744073709551616) (fun n => kn L (.inr (.inr (.inl n)) :: S) W)) (fun _ => none) y) none) S) S
noncomputable def zq_lcmp (kn : zKn) (E : zE) (L S : List zV) (W : zW) : zR := List.rec (motive := fun _ => zR) none (fun y S _ => List.rec (motive := fun _ => zR) none (fun x S _ => zNo x (fun m => zNo y (fun n => Bool.rec (motive := fun _ => zR) (zIf (zle64 m n) (kn L (.inl 1 :: S) W) (kn L (.inl 4294967295 :: S) W)) (kn L (.inl 0 :: S) W) (Nat.beq m n)) (Option.rec (motive := fun _ => zR) none (fun n => kn L (.inl n :: S) W) (zLc (zCmpl W.1 x y)))) (Option.rec (motive := fun _ => zR) none (fun n => kn L (.inl n :: S) W) (zLc (zCmpl W.1 x y)))) S) S
noncomputable def zq_dup (kn : zKn) (E : zE) (L S : List zV) (W : zW) : zR := List.rec (motive := fun _ => zR) none (fun v S _ => zLong v none (kn L (v :: v :: S) W)) S
noncomputable def zq_pop (kn : zKn) (E : zE) (L S : List zV) (W : zW) : zR := List.rec (motive := fun _ => zR) none (fun v S _ => zLong v none (kn L S W)) S
noncomputable def zq_dup2 (kn : zKn) (E : zE) (L S : List zV) (W : zW) : zR := List.rec (motive := fun _ => zR) none (fun v S _ => List.rec (motive := fun _ => zR) none (fun u S _ => zLong v none (zLong u none (kn L (v :: u :: v :: u :: S) W))) S) S
noncomputable def zSl (o : Option Bool) (x y : zR) : zR := Option.rec (motive := fun _ => zR) none (fun b => Bool.rec (motive := fun _ => zR) x y b) o
noncomputable def zq_if_eq (t : Nat) (kn : zKn) (E : zE) (L S : List zV) (W : zW) : zR := List.rec (motive := fun _ => zR) none (fun x S _ => Sum.rec (motive := fun _ => zR) (fun n => zIf (Nat.beq n 0) (kn L S W) (E.1 t L S W)) (fun _ => zSl (zBr (false, true, false) (zCmp W.1 x (.inl 0))) (kn L S W) (E.1 t L S W)) x) S
noncomputable def zq_ic_eq (t : Nat) (kn : zKn) (E : zE) (L S : List zV) (W : zW) : zR := List.rec (motive := fun _ => zR) none (fun y S _ => List.rec (motive := fun _ => zR) none (fun x S _ => Sum.rec (motive := fun _ => zR) (fun m => Sum.rec (motive := fun _ => zR) (fun n => zIf (Nat.beq m n) (kn L S W) (E.1 t L S W)) (fun _ => zSl (zBr (false, true, false) (zCmp W.1 x y)) (kn L S W) (E.1 t L S W)) y) (fun _ => zSl (zBr (false, true, false) (zCmp W.1 x y)) (kn L S W) (E.1 t L S W)) x) S) S
noncomputable def zq_if_ne (t : Nat) (kn : zKn) (E : zE) (L S : List zV) (W : zW) : zR := List.rec (motive := fun _ => zR) none (fun x S _ => Sum.rec (motive := fun _ => zR) (fun n => zIf (Nat.beq n 0) (E.1 t L S W) (kn L S W)) (fun _ => zSl (zBr (true, false, true) (zCmp W.1 x (.inl 0))) (kn L S W) (E.1 t L S W)) x) S
noncomputable def zq_ic_ne (t : Nat) (kn : zKn) (E : zE) (L S : List zV) (W : zW) : zR := List.rec (motive := fun _ => zR) none (fun y S _ => List.rec (motive := fun _ => zR) none (fun x S _ => Sum.rec (motive := fun _ => zR) (fun m => Sum.rec (motive := fun _ => zR) (fun n => zIf (Nat.beq m n) (E.1 t L S W) (kn L S W)) (fun _ => zSl (zBr (true, false, true) (zCmp W.1 x y)) (kn L S W) (E.1 t L S W)) y) (fun _ => zSl (zBr (true, false, true) (zCmp W.1 x y)) (kn L S W) (E.1 t L S W)) x) S) S
noncomputable def zq_if_lt (t : Nat) (kn : zKn) (E : zE) (L S : List zV) (W : zW) : zR := List.rec (motive := fun _ => zR) none (fun x S _ => Sum.rec (motive := fun _ => zR) (fun n => zIf (Nat.ble 2147483648 n) (kn L S W) (E.1 t L S W)) (fun _ => zSl (zBr (true, false, false) (zCmp W.1 x (.inl 0))) (kn L S W) (E.1 t L S W)) x) S
noncomputable def zq_ic_lt (t : Nat) (kn : zKn) (E : zE) (L S : List zV) (W : zW) : zR := List.rec (motive := fun _ => zR) none (fun y S _ => List.rec (motive := fun _ => zR) none (fun x S _ => Sum.rec (motive := fun _ => zR) (fun m => Sum.rec (motive := fun _ => zR) (fun n => zIf (zlt32 m n) (kn L S W) (E.1 t L S W)) (fun _ => zSl (zBr (true, false, false) (zCmp W.1 x y)) (kn L S W) (E.1 t L S W)) y) (fun _ => zSl (zBr (true, false, false) (zCmp W.1 x y)) (kn L S W) (E.1 t L S W)) x) S) S
noncomputable def zq_if_ge (t : Nat) (kn : zKn) (E : zE) (L S : List zV) (W : zW) : zR := List.rec (motive := fun _ => zR) none (fun x S _ => Sum.rec (motive := fun _ => zR) (fun n => zIf (Nat.ble 2147483648 n) (E.1 t L S W) (kn L S W)) (fun _ => zSl (zBr (false, true, true) (zCmp W.1 x (.inl 0))) (kn L S W) (E.1 t L S W)) x) S
noncomputable def zq_ic_ge (t : Nat) (kn : zKn) (E : zE) (L S : List zV) (W : zW) : zR := List.rec (motive := fun _ => zR) none (fun y S _ => List.rec (motive := fun _ => zR) none (fun x S _ => Sum.rec (motive := fun _ => zR) (fun m => Sum.rec (motive := fun _ => zR) (fun n => zIf (zlt32 m n) (E.1 t L S W) (kn L S W)) (fun _ => zSl (zBr (false, true, true) (zCmp W.1 x y)) (kn L S W) (E.1 t L S W)) y) (fun _ => zSl (zBr (false, true, true) (zCmp W.1 x y)) (kn L S W) (E.1 t L S W)) x) S) S
noncomputable def zq_if_gt (t : Nat) (kn : zKn) (E : zE) (L S : List zV) (W : zW) : zR := List.rec (motive := fun _ => zR) none (fun x S _ => Sum.rec (motive := fun _ => zR) (fun n => zIf (zle0 n) (E.1 t L S W) (kn L S W)) (fun _ => zSl (zBr (false, false, true) (zCmp W.1 x (.inl 0))) (kn L S W) (E.1 t L S W)) x) S
noncomputable def zq_ic_gt (t : Nat) (kn : zKn) (E : zE) (L S : List zV) (W : zW) : zR := List.rec (motive := fun _ => zR) none (fun y S _ => List.rec (motive := fun _ => zR) none (fun x S _ => Sum.rec (motive := fun _ => zR) (fun m => Sum.rec (motive := fun _ => zR) (fun n => zIf (zle32 m n) (E.1 t L S W) (kn L S W)) (fun _ => zSl (zBr (false, false, true) (zCmp W.1 x y)) (kn L S W) (E.1 t L S W)) y) (fun _ => zSl (zBr (false, false, true) (zCmp W.1 x y)) (kn L S W) (E.1 t L S W)) x) S) S
noncomputable def zq_if_le (t : Nat) (kn : zKn) (E : zE) (L S : List zV) (W : zW) : zR := List.rec (motive := fun _ => zR) none (fun x S _ => Sum.rec (motive := fun _ => zR) (fun n => zIf (zle0 n) (kn L S W) (E.1 t L S W)) (fun _ => zSl (zBr (true, true, false) (zCmp W.1 x (.inl 0))) (kn L S W) (E.1 t L S W)) x) S
noncomputable def zq_ic_le (t : Nat) (kn : zKn) (E : zE) (L S : List zV) (W : zW) : zR := List.rec (motive := fun _ => zR) none (fun y S _ => List.rec (motive := fun _ => zR) none (fun x S _ => Sum.rec (motive := fun _ => zR) (fun m => Sum.rec (motive := fun _ => zR) (fun n => zIf (zle32 m n) (kn L S W) (E.1 t L S W)) (fun _ => zSl (zBr (true, true, false) (zCmp W.1 x y)) (kn L S W) (E.1 t L S W)) y) (fun _ => zSl (zBr (true, true, false) (zCmp W.1 x y)) (kn L S W) (E.1 t L S W)) x) S) S
def zq_goto (t : Nat) (_ : zKn) (E : zE) (L S : List zV) (W : zW) : zR := E.1 t L S W
noncomputable def zq_tab (lo : Nat) (ts : List Nat) (d : Nat) (kn : zKn) (E : zE) (L S : List zV) (W : zW) : zR := List.rec (motive := fun _ => zR) none (fun x S _ => Sum.rec (motive := fun _ => zR) (fun n => zIf (Nat.ble 2147483648 n || Nat.ble (n + 1) lo) (Option.rec (motive := fun _ => zR) (Bool.rec (motive := fun _ => zR) none (E.1 d L S W) (Nat.ble (Nat.add lo ts.length) n)) (fun t => E.1 t L S W) (ts[Nat.sub n lo]?)) (E.1 d L S W)) (fun _ => zSl (zBr (true, false, false) (zCmp W.1 x (.inl lo))) (zSl (zBr (false, true, true) (zCmp W.1 x (.inl (Nat.add lo ts.length)))) none (E.1 d L S W)) (E.1 d L S W)) x) S
noncomputable def zq_getf (ci k : Nat) (kn : zKn) (E : zE) (L S : List zV) (W : zW) : zR := List.rec (motive := fun _ => zR) none (fun x S _ => Sum.rec (motive := fun _ => zR) (fun _ => none) (fun z => Sum.rec (motive := fun _ => zR) (fun a => Sum.rec (motive := fun _ => zR) (fun _ => none) (fun o => Bool.rec (motive := fun _ => zR) none (zGetK k o.2 (fun v => kn L (v :: S) W)) (Nat.beq o.1 ci)) (W.2.2.get a)) (fun _ => none) z) x) S
noncomputable def zFit (ty : Nat) (v : zV) (r : zR) : zR := Nat.rec (motive := fun _ => zR) (zTi v r) (fun ty _ => Nat.rec (motive := fun _ => zR) (zTl v r) (fun ty _ => Nat.rec (motive := fun _ => zR) (zTr v r) (fun _ _ => none) ty) ty) ty
noncomputable def zq_putf (ci k ty : Nat) (kn : zKn) (E : zE) (L S : List zV) (W : zW) : zR := List.rec (motive := fun _ => zR) none (fun y S _ => List.rec (motive := fun _ => zR) none (fun x S _ => zFit ty y (Sum.rec (motive := fun _ => zR) (fun _ => none) (fun z => Sum.rec (motive := fun _ => zR) (fun a => Sum.rec (motive := fun _ => zR) (fun _ => none) (fun o => Bool.rec (motive := fun _ => zR) none (zSetF k y o.2 (fun fs => zPut a (.inr (ci, fs)) W (fun W => kn L S W))) (Nat.beq o.1 ci)) (W.2.2.get a)) (fun _ => none) z) x)) S) S
noncomputable def zPush (v : zV) (kn : zKn) (L S : List zV) (W : zW) : zR := Sum.rec (motive := fun _ => zR) (fun n => kn L (.inl n :: S) W) (fun z => kn L (.inr z :: S) W) v
noncomputable def zq_ild_ (kd : Nat) (kn : zKn) (E : zE) (L S : List zV) (W : zW) : zR := List.rec (motive := fun _ => zR) none (fun x S _ => List.rec (motive := fun _ => zR) none (fun y S _ => Sum.rec (motive := fun _ => zR) (fun _ => none) (fun z => Sum.rec (motive := fun _ => zR) (fun a => Sum.rec (motive := fun _ => zR) (fun o => Bool.rec (motive := fun _ => zR) none (Sum.rec (motive := fun _ => zR) (fun m => Bool.rec (motive := fun _ => zR) none (zPush (o.2.2.get m) kn L S W) (Nat.ble (Nat.add 1 m) o.2.1)) (fun _ => zOp (zLdS W.1 x o.2.1 o.2.2) kn L S W) x) (Nat.beq o.1 kd)) (fun _ => none) (W.2.2.get a)) (fun _ => none) z) y) S) S
noncomputable def zq_iast (kn : zKn) (E : zE) (L S : List zV) (W : zW) : zR := List.rec (motive := fun _ => zR) none (fun v S _ => List.rec (motive := fun _ => zR) none (fun x S _ => List.rec (motive := fun _ => zR) none (fun y S _ => zTi v (Sum.rec (motive := fun _ => zR) (fun _ => none) (fun z => Sum.rec (motive := fun _ => zR) (fun a => Sum.rec (motive := fun _ => zR) (fun o => Bool.rec (motive := fun _ => zR) none (Sum.rec (motive := fun _ => zR) (fun m => Bool.rec (motive := fun _ => zR) none (zSetA m v o.2.2 0 o.2.1 (fun t => zPut a (.inl (0, o.2.1, t)) W (fun W => kn L S W))) (Nat.ble (Nat.add 1 m) o.2.1)) (fun _ => none) x) (Nat.beq o.1 0)) (fun _ => none) (W.2.2.get a)) (fun _ => none) z) y)) S) S) S
noncomputable def zq_last (kn : zKn) (E : zE) (L S : List zV) (W : zW) : zR := List.rec (motive := fun _ => zR) none (fun v S _ => List.rec (motive := fun _ => zR) none (fun x S _ => List.rec (motive := fun _ => zR) none (fun y S _ => zTl v (Sum.rec (motive := fun _ => zR) (fun _ => none) (fun z => Sum.rec (motive := fun _ => zR) (fun a => Sum.rec (motive := fun _ => zR) (fun o => Bool.rec (motive := fun _ => zR) none (Sum.rec (motive := fun _ => zR) (fun m => Bool.rec (motive := fun _ => zR) none (zSetA m v o.2.2 0 o.2.1 (fun t => zPut a (.inl (1, o.2.1, t)) W (fun W => kn L S W))) (Nat.ble (Nat.add 1 m) o.2.1)) (fun _ => none) x) (Nat.beq o.1 1)) (fun _ => none) (W.2.2.get a)) (fun _ => none) z) y)) S) S) S
noncomputable def zq_bast (kn : zKn) (E : zE) (L S : List zV) (W : zW) : zR := List.rec (motive := fun _ => zR) none (fun v S _ => List.rec (motive := fun _ => zR) none (fun x S _ => List.rec (motive := fun _ => zR) none (fun y S _ => Sum.rec (motive := fun _ => zR) (fun n => Bool.rec (motive := fun _ => zR) none (Sum.rec (motive := fun _ => zR) (fun _ => none) (fun z => Sum.rec (motive := fun _ => zR) (fun a => Sum.rec (motive := fun _ => zR) (fun o => Bool.rec (motive := fun _ => zR) none (Sum.rec (motive := fun _ => zR) (fun m => Bool.rec (motive := fun _ => zR) none (zSetA m v o.2.2 0 o.2.1 (fun t => zPut a (.inl (2, o.2.1, t)) W (fun W => kn L S W))) (Nat.ble (Nat.add 1 m) o.2.1)) (fun _ => none) x) (Nat.beq o.1 2)) (fun _ => none) (W.2.2.get a)) (fun _ => none) z) y) (Nat.ble n 1)) (fun _ => none) v) S) S) S
noncomputable def zq_len (kn : zKn) (E : zE) (L S : List zV) (W : zW) : zR := List.rec (motive := fun _ => zR) none (fun x S _ => Sum.rec (motive := fun _ => zR) (fun _ => none) (fun z => Sum.rec (motive := fun _ => zR) (fun a => Sum.rec (motive := fun _ => zR) (fun o => Bool.rec (motive := fun _ => zR) none (kn L (.inl o.2.1 :: S) W) (Nat.ble o.1 2)) (fun _ => none) (W.2.2.get a)) (fun _ => none) z) x) S
def zZero (k : Nat) : zV := bif Nat.beq k 1 then .inr (.inr (.inl 0)) else .inl 0
noncomputable def zq_newa (k : Nat) (kn : zKn) (E : zE) (L S : List zV) (W : zW) : zR := List.rec (motive := fun _ => zR) none (fun x S _ => Sum.rec (motive := fun _ => zR) (fun m => Bool.rec (motive := fun _ => zR) none (zNew (.inl (k, m, .leaf (zZero k))) W (fun W1 => kn L (.inr (.inl W.2.1) :: S) W1)) (Nat.ble m 60000000)) (fun _ => none) x) S
noncomputable def zq_newo (ci : Nat) (fs : List zV) (kn : zKn) (E : zE) (L S : List zV) (W : zW) : zR := zNew (.inr (ci, fs)) W (fun W1 => kn L (.inr (.inl W.2.1) :: S) W1)
noncomputable def zCk (as S : List zV) (mx : Nat) (r : zR) : zR := Bool.rec (motive := fun _ => zR) none (Bool.rec (motive := fun _ => zR) none r (Nat.ble (zCat as) mx)) (Nat.ble (zCat S) 8)
noncomputable def zq_calls (j n mx : Nat) (kn : zKn) (E : zE) (L S : List zV) (W : zW) : zR := zArgs n [] S (fun as S => zCk as S mx (E.2.1 j as L S W kn))
noncomputable def zq_calli (j n ci mx : Nat) (kn : zKn) (E : zE) (L S : List zV) (W : zW) : zR := zArgs n [] S (fun as S => List.rec (motive := fun _ => zR) none (fun x S _ => Sum.rec (motive := fun _ => zR) (fun _ => none) (fun z => Sum.rec (motive := fun _ => zR) (fun a => Sum.rec (motive := fun _ => zR) (fun _ => none) (fun o => Bool.rec (motive := fun _ => zR) none (zCk (.inr (.inl a) :: as) S mx (E.2.1 j (.inr (.inl a) :: as) L S W kn)) (Nat.beq o.1 ci)) (W.2.2.get a)) (fun _ => none) z) x) S)
noncomputable def zq_call0 (kn : zKn) (E : zE) (L S : List zV) (W : zW) : zR := List.rec (motive := fun _ => zR) none (fun x S _ => zTr x (Bool.rec (motive := fun _ => zR) none (kn L S W) (Nat.ble (zCat S) 8))) S
noncomputable def zq_iret (b : Nat) (_ : zKn) (E : zE) (L S : List zV) (W : zW) : zR := List.rec (motive := fun _ => zR) none (fun x S _ => List.rec (motive := fun _ => zR) (Nat.rec (motive := fun _ => zR) (zTi x (E.2.2 (some x) W)) (fun _ _ => Sum.rec (motive := fun _ => zR) (fun n => Bool.rec (motive := fun _ => zR) none (E.2.2 (some x) W) (Nat.ble n 1)) (fun _ => none) x) b) (fun _ _ _ => none) S) S
noncomputable def zq_lret (_ : zKn) (E : zE) (L S : List zV) (W : zW) : zR := List.rec (motive := fun _ => zR) none (fun x S _ => List.rec (motive := fun _ => zR) (zTl x (E.2.2 (some x) W)) (fun _ _ _ => none) S) S
noncomputable def zq_vret (_ : zKn) (E : zE) (L S : List zV) (W : zW) : zR := List.rec (motive := fun _ => zR) (E.2.2 none W) (fun _ _ _ => none) S
def zq_bad (_ : zKn) (_ : zE) (_ _ : List zV) (_ : zW) : zR := none
noncomputable def zCt (S : List zV) (r : zR) : zR := Bool.rec (motive := fun _ => zR) none r (Nat.ble (zCat S) 8)
noncomputable def zq_fill (kn : zKn) (E : zE) (L S : List zV) (W : zW) : zR := List.rec (motive := fun _ => zR) none (fun v S _ => List.rec (motive := fun _ => zR) none (fun y S _ => zTi v (Sum.rec (motive := fun _ => zR) (fun _ => none) (fun z => Sum.rec (motive := fun _ => zR) (fun a => Sum.rec (motive := fun _ => zR) (fun o => Bool.rec (motive := fun _ => zR) none (zCt S (zPut a (.inl (0, o.2.1, .leaf v)) W (fun W => kn L S W))) (Nat.beq o.1 0)) (fun _ => none) (W.2.2.get a)) (fun _ => none) z) y)) S) S
noncomputable def zq_filll (kn : zKn) (E : zE) (L S : List zV) (W : zW) : zR := List.rec (motive := fun _ => zR) none (fun v S _ => List.rec (motive := fun _ => zR) none (fun y S _ => zTl v (Sum.rec (motive := fun _ => zR) (fun _ => none) (fun z => Sum.rec (motive := fun _ => zR) (fun a => Sum.rec (motive := fun _ => zR) (fun o => Bool.rec (motive := fun _ => zR) none (zCt S (zPut a (.inl (1, o.2.1, .leaf v)) W (fun W => kn L S W))) (Nat.beq o.1 1)) (fun _ => none) (W.2.2.get a)) (fun _ => none) z) y)) S) S
noncomputable def zq_cpall (kn : zKn) (E : zE) (L S : List zV) (W : zW) : zR := List.rec (motive := fun _ => zR) none (fun y S _ => List.rec (motive := fun _ => zR) none (fun x S _ => Sum.rec (motive := fun _ => zR) (fun _ => none) (fun z => Sum.rec (motive := fun _ => zR) (fun b => Sum.rec (motive := fun _ => zR) (fun _ => none) (fun z => Sum.rec (motive := fun _ => zR) (fun a => Bool.rec (motive := fun _ => zR) (Sum.rec (motive := fun _ => zR) (fun o => Bool.rec (motive := fun _ => zR) none (Sum.rec (motive := fun _ => zR) (fun p => Bool.rec (motive := fun _ => zR) none (Bool.rec (motive := fun _ => zR) none (Bool.rec (motive := fun _ => zR) none (zCt S (zPut b (.inl (0, p.2.1, o.2.2)) W (fun W => kn L S W))) (Nat.beq p.2.1 37340)) (Nat.beq o.2.1 37340)) (Nat.beq p.1 0)) (fun _ => none) (W.2.2.get b)) (Nat.beq o.1 0)) (fun _ => none) (W.2.2.get a)) none (Nat.beq b a)) (fun _ => none) z) x) (fun _ => none) z) y) S) S
noncomputable def zFc (v : zV) (f : zV → zR) : zR := Sum.rec (motive := fun _ => zR) (fun n => f (.inl n)) (fun z => f (.inr z)) v
noncomputable def zCpy (t : Lean.RArray zV) (sp dp hi n : Nat) : Lean.RArray zV → (Lean.RArray zV → zR) → zR := Nat.rec (motive := fun _ => Lean.RArray zV → (Lean.RArray zV → zR) → zR) (fun u c => c u) (fun m ih u c => zFc (t.get (sp + m)) (fun v => zSetA (dp + m) v u 0 hi (fun u => ih u c))) n
noncomputable def zCp2 (a b sp dp n : Nat) (kn : zKn) (L S : List zV) (W : zW) : zR := Sum.rec (motive := fun _ => zR) (fun o => Sum.rec (motive := fun _ => zR) (fun p => Bool.rec (motive := fun _ => zR) none (Bool.rec (motive := fun _ => zR) none (Bool.rec (motive := fun _ => zR) none (Bool.rec (motive := fun _ => zR) none (zCt S (zCpy o.2.2 sp dp p.2.1 n p.2.2 (fun t => zPut b (.inl (p.1, p.2.1, t)) W (fun W => kn L S W)))) (Nat.ble (dp + n) p.2.1)) (Nat.ble (sp + n) o.2.1)) (Nat.ble o.1 1)) (Nat.beq o.1 p.1)) (fun _ => none) (W.2.2.get b)) (fun _ => none) (W.2.2.get a)
noncomputable def zq_copy (kn : zKn) (E : zE) (L S : List zV) (W : zW) : zR := List.rec (motive := fun _ => zR) none (fun x S _ => Sum.rec (motive := fun _ => zR) (fun n => List.rec (motive := fun _ => zR) none (fun x S _ => Sum.rec (motive := fun _ => zR) (fun dp => List.rec (motive := fun _ => zR) none (fun x S _ => Sum.rec (motive := fun _ => zR) (fun _ => none) (fun z => Sum.rec (motive := fun _ => zR) (fun b => List.rec (motive := fun _ => zR) none (fun x S _ => Sum.rec (motive := fun _ => zR) (fun sp => List.rec (motive := fun _ => zR) none (fun x S _ => Sum.rec (motive := fun _ => zR) (fun _ => none) (fun z => Sum.rec (motive := fun _ => zR) (fun a => zCp2 a b sp dp n kn L S W) (fun _ => none) z) x) S) (fun _ => none) x) S) (fun _ => none) z) x) S) (fun _ => none) x) S) (fun _ => none) x) S
noncomputable def zG0 (L : List zV) (c : zV → zR) : zR := List.rec (motive := fun _ => zR) none (fun a _ _ => c a) L
noncomputable def zG1 (L : List zV) (c : zV → zR) : zR := List.rec (motive := fun _ => zR) none (fun _ t _ => zG0 t c) L
noncomputable def zG2 (L : List zV) (c : zV → zR) : zR := List.rec (motive := fun _ => zR) none (fun _ t _ => zG1 t c) L
noncomputable def zG3 (L : List zV) (c : zV → zR) : zR := List.rec (motive := fun _ => zR) none (fun _ t _ => zG2 t c) L
noncomputable def zG4 (L : List zV) (c : zV → zR) : zR := List.rec (motive := fun _ => zR) none (fun _ t _ => zG3 t c) L
noncomputable def zG5 (L : List zV) (c : zV → zR) : zR := List.rec (motive := fun _ => zR) none (fun _ t _ => zG4 t c) L
noncomputable def zG6 (L : List zV) (c : zV → zR) : zR := List.rec (motive := fun _ => zR) none (fun _ t _ => zG5 t c) L
noncomputable def zG7 (L : List zV) (c : zV → zR) : zR := List.rec (motive := fun _ => zR) none (fun _ t _ => zG6 t c) L
noncomputable def zG8 (L : List zV) (c : zV → zR) : zR := List.rec (motive := fun _ => zR) none (fun _ t _ => zG7 t c) L
noncomputable def zG9 (L : List zV) (c : zV → zR) : zR := List.rec (motive := fun _ => zR) none (fun _ t _ => zG8 t c) L
noncomputable def zG10 (L : List zV) (c : zV → zR) : zR := List.rec (motive := fun _ => zR) none (fun _ t _ => zG9 t c) L
noncomputable def zG11 (L : List zV) (c : zV → zR) : zR := List.rec (motive := fun _ => zR) none (fun _ t _ => zG10 t c) L
noncomputable def zG12 (L : List zV) (c : zV → zR) : zR := List.rec (motive := fun _ => zR) none (fun _ t _ => zG11 t c) L
noncomputable def zG13 (L : List zV) (c : zV → zR) : zR := List.rec (motive := fun _ => zR) none (fun _ t _ => zG12 t c) L
noncomputable def zG14 (L : List zV) (c : zV → zR) : zR := List.rec (motive := fun _ => zR) none (fun _ t _ => zG13 t c) L
noncomputable def zG15 (L : List zV) (c : zV → zR) : zR := List.rec (motive := fun _ => zR) none (fun _ t _ => zG14 t c) L
noncomputable def zG16 (L : List zV) (c : zV → zR) : zR := List.rec (motive := fun _ => zR) none (fun _ t _ => zG15 t c) L
noncomputable def zG17 (L : List zV) (c : zV → zR) : zR := List.rec (motive := fun _ => zR) none (fun _ t _ => zG16 t c) L
noncomputable def zG18 (L : List zV) (c : zV → zR) : zR := List.rec (motive := fun _ => zR) none (fun _ t _ => zG17 t c) L
noncomputable def zG19 (L : List zV) (c : zV → zR) : zR := List.rec (motive := fun _ => zR) none (fun _ t _ => zG18 t c) L
noncomputable def zE0 (v : zV) (L : List zV) (c : List zV → zR) : zR := List.rec (motive := fun _ => zR) (c []) (fun _ t _ => c (v :: t)) L
noncomputable def zE1 (v : zV) (L : List zV) (c : List zV → zR) : zR := List.rec (motive := fun _ => zR) (c []) (fun a t _ => zKill a (fun b => zE0 v t (fun u => c (b :: u)))) L
noncomputable def zE2 (v : zV) (L : List zV) (c : List zV → zR) : zR := List.rec (motive := fun _ => zR) (c []) (fun a t _ => zE1 v t (fun u => c (a :: u))) L
noncomputable def zE3 (v : zV) (L : List zV) (c : List zV → zR) : zR := List.rec (motive := fun _ => zR) (c []) (fun a t _ => zE2 v t (fun u => c (a :: u))) L
noncomputable def zE4 (v : zV) (L : List zV) (c : List zV → zR) : zR := List.rec (motive := fun _ => zR) (c []) (fun a t _ => zE3 v t (fun u => c (a :: u))) L
noncomputable def zE5 (v : zV) (L : List zV) (c : List zV → zR) : zR := List.rec (motive := fun _ => zR) (c []) (fun a t _ => zE4 v t (fun u => c (a :: u))) L
noncomputable def zE6 (v : zV) (L : List zV) (c : List zV → zR) : zR := List.rec (motive := fun _ => zR) (c []) (fun a t _ => zE5 v t (fun u => c (a :: u))) L
noncomputable def zE7 (v : zV) (L : List zV) (c : List zV → zR) : zR := List.rec (motive := fun _ => zR) (c []) (fun a t _ => zE6 v t (fun u => c (a :: u))) L
noncomputable def zE8 (v : zV) (L : List zV) (c : List zV → zR) : zR := List.rec (motive := fun _ => zR) (c []) (fun a t _ => zE7 v t (fun u => c (a :: u))) L
noncomputable def zE9 (v : zV) (L : List zV) (c : List zV → zR) : zR := List.rec (motive := fun _ => zR) (c []) (fun a t _ => zE8 v t (fun u => c (a :: u))) L
noncomputable def zE10 (v : zV) (L : List zV) (c : List zV → zR) : zR := List.rec (motive := fun _ => zR) (c []) (fun a t _ => zE9 v t (fun u => c (a :: u))) L
noncomputable def zE11 (v : zV) (L : List zV) (c : List zV → zR) : zR := List.rec (motive := fun _ => zR) (c []) (fun a t _ => zE10 v t (fun u => c (a :: u))) L
noncomputable def zE12 (v : zV) (L : List zV) (c : List zV → zR) : zR := List.rec (motive := fun _ => zR) (c []) (fun a t _ => zE11 v t (fun u => c (a :: u))) L
noncomputable def zE13 (v : zV) (L : List zV) (c : List zV → zR) : zR := List.rec (motive := fun _ => zR) (c []) (fun a t _ => zE12 v t (fun u => c (a :: u))) L
noncomputable def zq_ildg (g : List zV → (zV → zR) → zR) (kn : zKn) (E : zE) (L S : List zV) (W : zW) : zR := g L (fun v => zTi v (kn L (v :: S) W))
noncomputable def zq_aldg (g : List zV → (zV → zR) → zR) (kn : zKn) (E : zE) (L S : List zV) (W : zW) : zR := g L (fun v => zTr v (kn L (v :: S) W))
noncomputable def zq_lldg (g : List zV → (zV → zR) → zR) (kn : zKn) (E : zE) (L S : List zV) (W : zW) : zR := g L (fun v => zTl v (kn L (v :: S) W))
noncomputable def zq_istg (g : zV → List zV → (List zV → zR) → zR) (kn : zKn) (E : zE) (L S : List zV) (W : zW) : zR := List.rec (motive := fun _ => zR) none (fun v S _ => zTi v (g v L (fun L => kn L S W))) S
noncomputable def zq_astg (g : zV → List zV → (List zV → zR) → zR) (kn : zKn) (E : zE) (L S : List zV) (W : zW) : zR := List.rec (motive := fun _ => zR) none (fun v S _ => zTr v (g v L (fun L => kn L S W))) S
noncomputable def zq_incg (g : List zV → (zV → zR) → zR) (s : zV → List zV → (List zV → zR) → zR) (c : Nat) (kn : zKn) (E : zE) (L S : List zV) (W : zW) : zR := g L (fun v => Sum.rec (motive := fun _ => zR) (fun n => zNf (Nat.mod (Nat.add n c) 4294967296) (fun n => s (.inl n) L (fun L => kn L S W))) (fun _ => Option.rec (motive := fun _ => zR) none (fun v => s v L (fun L => kn L S W)) (zII zAdd v (.inl c))) v)
noncomputable def zq_getfg (ci : Nat) (g : List zV → (zV → zR) → zR) (kn : zKn) (E : zE) (L S : List zV) (W : zW) : zR := List.rec (motive := fun _ => zR) none (fun x S _ => Sum.rec (motive := fun _ => zR) (fun _ => none) (fun z => Sum.rec (motive := fun _ => zR) (fun a => Sum.rec (motive := fun _ => zR) (fun _ => none) (fun o => Bool.rec (motive := fun _ => zR) none (g o.2 (fun v => kn L (v :: S) W)) (Nat.beq o.1 ci)) (W.2.2.get a)) (fun _ => none) z) x) S
