/-! THE WORLDS BEHIND THE STARTS, and that the starts lead there. By program (wip/tools/mk25.py). -/
def sXs : Nat → Int32 := (fun k => bif Nat.ble k 2 then (bif Nat.ble k 0 then ((-1000)) else (1000)) else (bif Nat.ble k 3 then ((-1000)) else (0)) : Nat → Int32)
def sYs : Nat → Int32 := (fun k => bif Nat.ble k 1 then ((-1000)) else (bif Nat.ble k 3 then (1000) else (0)) : Nat → Int32)
def sFx : Nat → Int64 := (fun k => bif Nat.ble k 1 then (bif Nat.ble k 0 then (10) else (5)) else (bif Nat.ble k 2 then (10) else (bif Nat.ble k 3 then (5) else (0))) : Nat → Int64)
def sAp : Nat → Int32 := (fun k => bif Nat.ble k 79 then (bif Nat.ble k 2 then (bif Nat.ble k 0 then ((-1)) else (bif Nat.ble k 1 then (2) else (3))) else (bif Nat.ble k 41 then ((-1)) else (bif Nat.ble k 42 then (0) else ((-1))))) else (bif Nat.ble k 83 then (bif Nat.ble k 80 then (1) else (bif Nat.ble k 82 then ((-1)) else (0))) else (bif Nat.ble k 120 then (bif Nat.ble k 119 then ((-1)) else (2)) else (bif Nat.ble k 1599 then ((-1)) else (0)))) : Nat → Int32)
def sOw : Nat → Int32 := (fun k => bif Nat.ble k 82 then (bif Nat.ble k 1 then (0) else (bif Nat.ble k 2 then (1) else (0))) else (bif Nat.ble k 119 then (bif Nat.ble k 83 then (1) else (0)) else (bif Nat.ble k 120 then (1) else (0))) : Nat → Int32)
def sCo : Nat → Int32 := (fun k => bif Nat.ble k 2 then (bif Nat.ble k 0 then (0) else (bif Nat.ble k 1 then (1) else (2))) else (bif Nat.ble k 4 then (bif Nat.ble k 3 then (0) else (2)) else (bif Nat.ble k 5 then (3) else (0))) : Nat → Int32)
def sEn : Nat → Int32 := (fun k => bif Nat.ble k 4 then (bif Nat.ble k 1 then (bif Nat.ble k 0 then (0) else (1)) else (bif Nat.ble k 2 then (0) else (bif Nat.ble k 3 then (2) else (0)))) else (bif Nat.ble k 6 then (bif Nat.ble k 5 then (3) else (1)) else (bif Nat.ble k 8 then (2) else (bif Nat.ble k 9 then (3) else (0)))) : Nat → Int32)
def sNe : Nat → Int64 := (fun k => bif Nat.ble k 1 then (bif Nat.ble k 0 then (14) else (5)) else (bif Nat.ble k 2 then (11) else (bif Nat.ble k 3 then (5) else (0))) : Nat → Int64)
def sLi : Nat → Int64 := (fun k => bif Nat.ble k 3 then (2000000) else (0) : Nat → Int64)
def sPn : Nat → Int32 := (fun k => bif Nat.ble k 137 then (bif Nat.ble k 39 then (bif Nat.ble k 2 then (bif Nat.ble k 0 then ((-1000)) else (1000)) else (bif Nat.ble k 3 then ((-1000)) else (0))) else (bif Nat.ble k 43 then (bif Nat.ble k 41 then ((-1000)) else (1000)) else (bif Nat.ble k 136 then (0) else (313)))) else (bif Nat.ble k 141 then (bif Nat.ble k 139 then (bif Nat.ble k 138 then (2) else (0)) else (bif Nat.ble k 140 then (1) else (2))) else (bif Nat.ble k 143 then (bif Nat.ble k 142 then (0) else (2)) else (bif Nat.ble k 144 then (3) else (0)))) : Nat → Int32)
def sPb : Nat → Int64 := (fun k => bif Nat.ble k 2 then (bif Nat.ble k 0 then (10) else (bif Nat.ble k 1 then (5) else (10))) else (bif Nat.ble k 39 then (bif Nat.ble k 3 then (5) else (0)) else (bif Nat.ble k 40 then (15) else (0))) : Nat → Int64)
def sA : Nat → Int32 := (fun k => bif Nat.ble k 163 then (bif Nat.ble k 9 then (bif Nat.ble k 5 then (bif Nat.ble k 2 then (bif Nat.ble k 1 then (0) else (313)) else (bif Nat.ble k 3 then (1) else ((-1000)))) else (bif Nat.ble k 7 then (bif Nat.ble k 6 then (0) else (1)) else (bif Nat.ble k 8 then (1000) else ((-1000))))) else (bif Nat.ble k 14 then (bif Nat.ble k 11 then (bif Nat.ble k 10 then (0) else (1)) else (bif Nat.ble k 13 then (1000) else (0))) else (bif Nat.ble k 16 then (bif Nat.ble k 15 then (1) else ((-1000))) else (bif Nat.ble k 17 then (1000) else (0))))) else (bif Nat.ble k 243 then (bif Nat.ble k 202 then (bif Nat.ble k 165 then (bif Nat.ble k 164 then (2) else (0)) else (bif Nat.ble k 166 then (2) else (0))) else (bif Nat.ble k 204 then (bif Nat.ble k 203 then (2) else (0)) else (bif Nat.ble k 205 then (2) else (0)))) else (bif Nat.ble k 282 then (bif Nat.ble k 245 then (bif Nat.ble k 244 then (2) else (0)) else (bif Nat.ble k 246 then (2) else (0))) else (bif Nat.ble k 284 then (bif Nat.ble k 283 then (2) else (0)) else (bif Nat.ble k 285 then (2) else (0))))) : Nat → Int32)
def sTr : Nat → Int32 := (fun k => bif Nat.ble k 2 then (bif Nat.ble k 0 then (0) else (bif Nat.ble k 1 then (1) else (2))) else (bif Nat.ble k 4 then (bif Nat.ble k 3 then (0) else (2)) else (bif Nat.ble k 5 then (3) else (0))) : Nat → Int32)
def sLf : Nat → Int32 := (fun k => bif Nat.ble k 79 then (bif Nat.ble k 2 then (bif Nat.ble k 0 then ((-1)) else (bif Nat.ble k 1 then (0) else (1))) else (bif Nat.ble k 41 then ((-1)) else (bif Nat.ble k 42 then (0) else ((-1))))) else (bif Nat.ble k 83 then (bif Nat.ble k 80 then (0) else (bif Nat.ble k 82 then ((-1)) else (1))) else (bif Nat.ble k 120 then (bif Nat.ble k 119 then ((-1)) else (1)) else (bif Nat.ble k 1599 then ((-1)) else (0)))) : Nat → Int32)
def sIc : Nat → Int32 := (fun k => bif Nat.ble k 0 then (42) else (bif Nat.ble k 1 then (83) else (0)) : Nat → Int32)
def wAe : pW := [.inr (8, [.ref 1, .ref 18, .ref 35, .ref 38, .ref 41, .ref 45, .ref 48, .ref 51, .ref 54, .ref 56]),
  .inr (1, [.ref 2, .ref 9, .ref 10, .ref 11, .ref 12, .ref 13, .ref 14, .int 2, .int 5, .ref 15, .ref 16, .ref 17, .int 0]),
  .inr (5, [.ref 3, .ref 4, .ref 5, .ref 6, .ref 7, .ref 8, .long 15, .int 0, .int 313]),
  .inl (0, 40, .inl sXs),
  .inl (0, 40, .inl sYs),
  .inl (0, 40, .inl (fun _ => 0)),
  .inl (1, 40, .inr (.inl sFx)),
  .inl (0, 8, .inl (fun _ => 0)),
  .inl (0, 8, .inl (fun _ => 0)),
  .inl (0, 1600, .inl sAp),
  .inl (0, 1600, .inl sOw),
  .inl (0, 222, .inl sCo),
  .inl (0, 226, .inl sEn),
  .inl (1, 40, .inr (.inl sNe)),
  .inl (0, 40, .inl (fun _ => 0)),
  .inl (1, 40, .inr (.inl sLi)),
  .inl (1, 40, .inr (.inl (fun _ => 0))),
  .inl (0, 800, .inl (fun _ => 0)),
  .inr (1, [.ref 19, .ref 26, .ref 27, .ref 28, .ref 29, .ref 30, .ref 31, .int 0, .int 0, .ref 32, .ref 33, .ref 34, .int 0]),
  .inr (5, [.ref 20, .ref 21, .ref 22, .ref 23, .ref 24, .ref 25, .long 0, .int 0, .int 0]),
  .inl (0, 40, .inl (fun _ => 0)),
  .inl (0, 40, .inl (fun _ => 0)),
  .inl (0, 40, .inl (fun _ => 0)),
  .inl (1, 40, .inr (.inl (fun _ => 0))),
  .inl (0, 8, .inl (fun _ => 0)),
  .inl (0, 8, .inl (fun _ => 0)),
  .inl (0, 1600, .inl (fun _ => 0)),
  .inl (0, 1600, .inl (fun _ => 0)),
  .inl (0, 222, .inl (fun _ => 0)),
  .inl (0, 226, .inl (fun _ => 0)),
  .inl (1, 40, .inr (.inl (fun _ => 0))),
  .inl (0, 40, .inl (fun _ => 0)),
  .inl (1, 40, .inr (.inl (fun _ => 0))),
  .inl (1, 40, .inr (.inl (fun _ => 0))),
  .inl (0, 800, .inl (fun _ => 0)),
  .inr (3, [.ref 36, .ref 37, .int 0]),
  .inl (0, 7581, .inl (fun _ => 0)),
  .inl (1, 861, .inr (.inl (fun _ => 0))),
  .inr (3, [.ref 39, .ref 40, .int 0]),
  .inl (0, 7581, .inl sPn),
  .inl (1, 861, .inr (.inl sPb)),
  .inr (4, [.ref 42, .ref 43, .int 0, .ref 44]),
  .inl (0, 74, .inl (fun _ => 0)),
  .inl (0, 74, .inl (fun _ => 0)),
  .inl (0, 74, .inl (fun _ => 0)),
  .inr (7, [.ref 46, .ref 47]),
  .inl (0, 40, .inl (fun _ => 0)),
  .inl (0, 113, .inl (fun _ => 0)),
  .inr (2, [.ref 49, .int 0, .ref 50]),
  .inl (0, 74, .inl (fun _ => 0)),
  .inl (0, 74, .inl (fun _ => 0)),
  .inr (6, [.ref 52, .int 0, .ref 53]),
  .inl (0, 40, .inl (fun _ => 0)),
  .inl (0, 40, .inl (fun _ => 0)),
  .inr (0, [.ref 55, .int 0]),
  .inl (0, 40, .inl (fun _ => 0)),
  .inl (0, 40, .inl (fun _ => 0))]
def wMe : pW := [.inr (9, [.ref 58, .ref 59, .ref 60, .ref 61, .int 2, .ref 62, .ref 63, .ref 64, .ref 65, .ref 66, .ref 67, .ref 68, .ref 69, .int 0, .int 0, .ref 70, .int 0, .ref 71, .int 2]),
  .inl (0, 37340, .inl sA),
  .inl (0, 37340, .inl sA),
  .inl (0, 240, .inl sTr),
  .inl (0, 1600, .inl sLf),
  .inl (0, 1778, .inl (fun _ => 0)),
  .inl (2, 80, .inl (fun _ => 0)),
  .inl (0, 40, .inl (fun _ => 0)),
  .inl (0, 80, .inl (fun _ => 0)),
  .inl (0, 80, .inl (fun _ => 0)),
  .inl (0, 40, .inl (fun _ => 0)),
  .inl (0, 40, .inl (fun _ => 0)),
  .inl (0, 40, .inl (fun _ => 0)),
  .inl (0, 80, .inl (fun _ => 0)),
  .inl (0, 80, .inl sIc)]
def w0e : pW := wAe ++ wMe
set_option maxRecDepth 1000000 in
theorem startA : (match pGoX oA 100000 114 (0, lv_args 0 [.ref 0], [], [lCell 8 10]) with
  | some (none, w) => pEqB wAe w
  | _ => false) = true := by decide +kernel
