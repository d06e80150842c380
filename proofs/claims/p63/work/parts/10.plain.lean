/-! THE PLAIN MACHINE: a run of the bytecode over plain worlds (references are places 0, 1, .. in the order in which cells were made), and its tables. -/
-- ===== tables, read =====
def pMd : MethodName × ByteArray × Nat × Option FieldType × Nat := (⟨"", "", ""⟩, ByteArray.empty, 0, none, 0)
def pY (i : Nat) : MethodName := (pMs.getD i pMd).1
def pB (i : Nat) : ByteArray := (pMs.getD i pMd).2.1
def pX (i : Nat) : Nat := (pMs.getD i pMd).2.2.1
def pR (i : Nat) : Option FieldType := (pMs.getD i pMd).2.2.2.1
def pO (i : Nat) : Nat := (pMs.getD i pMd).2.2.2.2
def pN (o : Nat) : String := pON.getD o ""
def pRm (i : Nat) : Room := let q := pRmL.getD i (0, 0, 0, 0); { frames := q.1, cells := q.2.1, slots := q.2.2.1, locals := q.2.2.2 }
def pG0 : List Cond := lw_tbl.filter goodWord
def pNestW : Cond → Bool
  | .methodLinkNest _ _ _ _ => true
  | _ => false
def pN0 : List Cond := lw_tbl.filter pNestW
def pWs (i : Nat) : List Cond := .code (pY i) (pB i) (pX i) (pR i) :: pG0
def pFlE (o idx : Nat) : Option (Nat × Nat × Nat × Nat × Nat) := pFlL.find? (fun q => q.1 == o && q.2.1 == idx)
def pFl (o idx : Nat) : Option (Nat × Nat) := (pFlE o idx).map (fun q => (q.2.2.1, q.2.2.2.1))
def pCaE (o idx : Nat) : Option (Nat × Nat × Nat × Nat × Nat × Nat × Nat × Nat × Nat × Nat) := pCaL.find? (fun q => q.1 == o && q.2.1 == idx)
/-- a call: its kind, the callee, the number of arguments beside the receiver -/
def pCa (o idx : Nat) : Option (Nat × Nat × Nat) := (pCaE o idx).map (fun q => (q.2.2.1, q.2.2.2.1, q.2.2.2.2.1))
def pNwE (o idx : Nat) : Option (Nat × Nat × Nat × Nat × Nat × Nat) := pNwL.find? (fun q => q.1 == o && q.2.1 == idx)
def pNw (o idx : Nat) : Option Nat := (pNwE o idx).map (fun q => q.2.2.1)
def pAnE (o idx : Nat) : Option (Nat × Nat × Nat × Nat × Nat) := pAnL.find? (fun q => q.1 == o && q.2.1 == idx)
def pAn (o idx : Nat) : Option Nat := (pAnE o idx).map (fun q => q.2.2.1)
def pKiE (o idx : Nat) : Option (Nat × Nat × Int32 × Nat) := pKiL.find? (fun q => q.1 == o && q.2.1 == idx)
def pKi (o idx : Nat) : Option Int32 := (pKiE o idx).map (fun q => q.2.2.1)
def pKlE (o idx : Nat) : Option (Nat × Nat × Int64 × Nat) := pKlL.find? (fun q => q.1 == o && q.2.1 == idx)
def pKl (o idx : Nat) : Option Int64 := (pKlE o idx).map (fun q => q.2.2.1)
/-- the type of field k of class ci -/
def pTf (ci k : Nat) : FieldType := (pTyp.getD ci (fun _ => .int)) k
-- ===== tables, checked =====
def pHas (i : Nat) (w : Cond) : Bool := decide ((pBl (i / 1000))[i % 1000]? = some w) && goodWord w
theorem pHas_g {i : Nat} {w : Cond} (h : pHas i w = true) : w ∈ pG0 := by
  simp only [pHas, Bool.and_eq_true, decide_eq_true_eq] at h
  exact List.mem_filter.mpr ⟨pBl_in (List.mem_of_getElem? h.1), h.2⟩
def pHasN (i : Nat) (w : Cond) : Bool := decide ((pBl (i / 1000))[i % 1000]? = some w) && pNestW w
theorem pHasN_g {i : Nat} {w : Cond} (h : pHasN i w = true) : w ∈ pN0 := by
  simp only [pHasN, Bool.and_eq_true, decide_eq_true_eq] at h
  exact List.mem_filter.mpr ⟨pBl_in (List.mem_of_getElem? h.1), h.2⟩
theorem pG0_good {w : Cond} (h : w ∈ pG0) : goodWord w = true := (List.mem_filter.mp h).2
theorem pG0_in {w : Cond} (h : w ∈ pG0) : w ∈ lw_tbl := (List.mem_filter.mp h).1
theorem pN0_in {w : Cond} (h : w ∈ pN0) : w ∈ lw_tbl := (List.mem_filter.mp h).1
def pFlC (q : Nat × Nat × Nat × Nat × Nat) : Bool := match vwCl[q.2.2.1]? with
  | some c => decide (q.2.2.2.1 < c.2.2) && pHas q.2.2.2.2 (.fieldLink (pN q.1) q.2.1 (c.2.1 q.2.2.2.1).1 (c.2.1 q.2.2.2.1).2.1 (c.2.1 q.2.2.2.1).2.2.1)
  | none => false
set_option maxRecDepth 100000 in
theorem pFl_chk : pFlL.all pFlC = true := by decide +kernel
theorem pFind {α : Type} {l : List α} {p c : α → Bool} (h : l.all c = true) {a : α} (hf : l.find? p = some a) : p a = true ∧ c a = true := ⟨List.find?_some hf, List.all_eq_true.mp h a (List.mem_of_find?_eq_some hf)⟩
theorem pFl_ok {o idx ci k : Nat} (h : pFl o idx = some (ci, k)) : ∃ c : vw_C, vwCl[ci]? = some c ∧ k < c.2.2 ∧ Cond.fieldLink (pN o) idx (c.2.1 k).1 (c.2.1 k).2.1 (c.2.1 k).2.2.1 ∈ pG0 := by
  unfold pFl at h
  cases hq : pFlE o idx with
  | none => rw [hq] at h; cases h
  | some q =>
    rw [hq] at h
    cases h
    obtain ⟨h1, h2⟩ := pFind pFl_chk hq
    simp only [Bool.and_eq_true, beq_iff_eq] at h1
    unfold pFlC at h2
    cases hc : vwCl[q.2.2.1]? with
    | none => rw [hc] at h2; cases h2
    | some c =>
      rw [hc] at h2
      simp only [Bool.and_eq_true, decide_eq_true_eq] at h2
      refine ⟨c, rfl, h2.1, ?_⟩
      rw [← h1.1, ← h1.2]
      exact pHas_g h2.2
def pArg (j : Nat) : Option Nat := (parseMethodDescriptor (pY j).desc).map (fun d => d.parameters.length)
def pNoMH (j : Nat) : Bool := decide ((pY j).cls ≠ "java/lang/invoke/MethodHandle") && decide ((pY j).cls ≠ "java/lang/invoke/VarHandle") && plainName (pY j).cls
def pCaC (q : Nat × Nat × Nat × Nat × Nat × Nat × Nat × Nat × Nat × Nat) : Bool :=
  let o := q.1; let idx := q.2.1; let kd := q.2.2.1; let j := q.2.2.2.1; let n := q.2.2.2.2.1
  let p1 := q.2.2.2.2.2.1; let p2 := q.2.2.2.2.2.2.1; let p3 := q.2.2.2.2.2.2.2.1; let p4 := q.2.2.2.2.2.2.2.2.1; let p5 := q.2.2.2.2.2.2.2.2.2
  match kd with
  | 0 => pHas p1 (.methodLink (pN o) idx Lib.objectInit) && pHas p2 (.instanceMethod Lib.objectInit)
  | 7 => pHas p1 (.methodLink (pN o) idx arraycopyName) && pHas p2 (.native arraycopyName) && pHas p3 (.static arraycopyName) && pHas p4 (.initialized "java/lang/System")
  | kd =>
    (pHas p3 (.initialized (pY j).cls) && pHas p4 (.code (pY j) (pB j) (pX j) (pR j)) && decide (pArg j = some n) && pNoMH j) &&
    (match kd with
    | 1 => pHas p1 (.methodLink (pN o) idx (pY j)) && pHas p2 (.instanceMethod (pY j)) && pHas p5 (.selects (pY j).cls (pY j) (pY j))
    | 2 => pHas p1 (.methodLink (pN o) idx (pY j)) && pHas p2 (.static (pY j))
    | 3 => pHas p1 (.methodLink (pN o) idx (pY j)) && pHas p2 (.instanceMethod (pY j)) && decide ((pY j).name = "<init>") && decide (pR j = none)
    | 4 => pHasN p1 (.methodLinkNest (pN o) idx (pY j) "SquareMesh") && pHas p2 (.static (pY j))
    | 5 => pHasN p1 (.methodLinkNest (pN o) idx (pY j) "SquareMesh") && pHas p2 (.instanceMethod (pY j)) && decide ((pY j).name = "<init>") && decide (pR j = none)
    | _ => false)
theorem y135 : plainFor (pY 135) = true := by decide +kernel
theorem y136 : plainFor (pY 136) = true := by decide +kernel
theorem y137 : plainFor (pY 137) = true := by decide +kernel
theorem y138 : plainFor (pY 138) = true := by decide +kernel
theorem y139 : plainFor (pY 139) = true := by decide +kernel
theorem y140 : plainFor (pY 140) = true := by decide +kernel
theorem y141 : plainFor (pY 141) = true := by decide +kernel
theorem y142 : plainFor (pY 142) = true := by decide +kernel
theorem y143 : plainFor (pY 143) = true := by decide +kernel
theorem y144 : plainFor (pY 144) = true := by decide +kernel
theorem y145 : plainFor (pY 145) = true := by decide +kernel
theorem y146 : plainFor (pY 146) = true := by decide +kernel
theorem yy : (List.range 159).all (fun j => plainFor (pY j)) = true := by decide +kernel
