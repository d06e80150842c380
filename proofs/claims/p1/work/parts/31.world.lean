/-! THE REFERENCE'S OBJECT AS A STRUCTURE; its cells lie behind what was there before (A). By program (wip/tools/mk31.py). -/
abbrev RS : Type := (Nat → Int32) × (Nat → Int32) × (Nat → Int32) × (Nat → Int32) × (Nat → Int32) × (Nat → Int32) × (Nat → Int32) × (Nat → Int32) × (Nat → Int32) × (Nat → Int32) × (Nat → Int32) × (Nat → Int32) × (Nat → Int32) × (Nat → Int32) × Int32 × Int32 × Int32 × Int32 × Int32
def RS.a (R : RS) : Nat → Int32 := R.1
def RS.im (R : RS) : Nat → Int32 := R.2.1
def RS.tr (R : RS) : Nat → Int32 := R.2.2.1
def RS.lf (R : RS) : Nat → Int32 := R.2.2.2.1
def RS.sd (R : RS) : Nat → Int32 := R.2.2.2.2.1
def RS.sn (R : RS) : Nat → Int32 := R.2.2.2.2.2.1
def RS.st (R : RS) : Nat → Int32 := R.2.2.2.2.2.2.1
def RS.fa (R : RS) : Nat → Int32 := R.2.2.2.2.2.2.2.1
def RS.rg (R : RS) : Nat → Int32 := R.2.2.2.2.2.2.2.2.1
def RS.co (R : RS) : Nat → Int32 := R.2.2.2.2.2.2.2.2.2.1
def RS.lo (R : RS) : Nat → Int32 := R.2.2.2.2.2.2.2.2.2.2.1
def RS.pc (R : RS) : Nat → Int32 := R.2.2.2.2.2.2.2.2.2.2.2.1
def RS.ws (R : RS) : Nat → Int32 := R.2.2.2.2.2.2.2.2.2.2.2.2.1
def RS.ic (R : RS) : Nat → Int32 := R.2.2.2.2.2.2.2.2.2.2.2.2.2.1
def RS.n (R : RS) : Int32 := R.2.2.2.2.2.2.2.2.2.2.2.2.2.2.1
def RS.one (R : RS) : Int32 := R.2.2.2.2.2.2.2.2.2.2.2.2.2.2.2.1
def RS.two (R : RS) : Int32 := R.2.2.2.2.2.2.2.2.2.2.2.2.2.2.2.2.1
def RS.wn (R : RS) : Int32 := R.2.2.2.2.2.2.2.2.2.2.2.2.2.2.2.2.2.1
def RS.mn (R : RS) : Int32 := R.2.2.2.2.2.2.2.2.2.2.2.2.2.2.2.2.2.2
def RS.u_a (R : RS) (x : Nat → Int32) : RS := (x, R.im, R.tr, R.lf, R.sd, R.sn, R.st, R.fa, R.rg, R.co, R.lo, R.pc, R.ws, R.ic, R.n, R.one, R.two, R.wn, R.mn)
def RS.u_im (R : RS) (x : Nat → Int32) : RS := (R.a, x, R.tr, R.lf, R.sd, R.sn, R.st, R.fa, R.rg, R.co, R.lo, R.pc, R.ws, R.ic, R.n, R.one, R.two, R.wn, R.mn)
def RS.u_tr (R : RS) (x : Nat → Int32) : RS := (R.a, R.im, x, R.lf, R.sd, R.sn, R.st, R.fa, R.rg, R.co, R.lo, R.pc, R.ws, R.ic, R.n, R.one, R.two, R.wn, R.mn)
def RS.u_lf (R : RS) (x : Nat → Int32) : RS := (R.a, R.im, R.tr, x, R.sd, R.sn, R.st, R.fa, R.rg, R.co, R.lo, R.pc, R.ws, R.ic, R.n, R.one, R.two, R.wn, R.mn)
def RS.u_sd (R : RS) (x : Nat → Int32) : RS := (R.a, R.im, R.tr, R.lf, x, R.sn, R.st, R.fa, R.rg, R.co, R.lo, R.pc, R.ws, R.ic, R.n, R.one, R.two, R.wn, R.mn)
def RS.u_sn (R : RS) (x : Nat → Int32) : RS := (R.a, R.im, R.tr, R.lf, R.sd, x, R.st, R.fa, R.rg, R.co, R.lo, R.pc, R.ws, R.ic, R.n, R.one, R.two, R.wn, R.mn)
def RS.u_st (R : RS) (x : Nat → Int32) : RS := (R.a, R.im, R.tr, R.lf, R.sd, R.sn, x, R.fa, R.rg, R.co, R.lo, R.pc, R.ws, R.ic, R.n, R.one, R.two, R.wn, R.mn)
def RS.u_fa (R : RS) (x : Nat → Int32) : RS := (R.a, R.im, R.tr, R.lf, R.sd, R.sn, R.st, x, R.rg, R.co, R.lo, R.pc, R.ws, R.ic, R.n, R.one, R.two, R.wn, R.mn)
def RS.u_rg (R : RS) (x : Nat → Int32) : RS := (R.a, R.im, R.tr, R.lf, R.sd, R.sn, R.st, R.fa, x, R.co, R.lo, R.pc, R.ws, R.ic, R.n, R.one, R.two, R.wn, R.mn)
def RS.u_co (R : RS) (x : Nat → Int32) : RS := (R.a, R.im, R.tr, R.lf, R.sd, R.sn, R.st, R.fa, R.rg, x, R.lo, R.pc, R.ws, R.ic, R.n, R.one, R.two, R.wn, R.mn)
def RS.u_lo (R : RS) (x : Nat → Int32) : RS := (R.a, R.im, R.tr, R.lf, R.sd, R.sn, R.st, R.fa, R.rg, R.co, x, R.pc, R.ws, R.ic, R.n, R.one, R.two, R.wn, R.mn)
def RS.u_pc (R : RS) (x : Nat → Int32) : RS := (R.a, R.im, R.tr, R.lf, R.sd, R.sn, R.st, R.fa, R.rg, R.co, R.lo, x, R.ws, R.ic, R.n, R.one, R.two, R.wn, R.mn)
def RS.u_ws (R : RS) (x : Nat → Int32) : RS := (R.a, R.im, R.tr, R.lf, R.sd, R.sn, R.st, R.fa, R.rg, R.co, R.lo, R.pc, x, R.ic, R.n, R.one, R.two, R.wn, R.mn)
def RS.u_ic (R : RS) (x : Nat → Int32) : RS := (R.a, R.im, R.tr, R.lf, R.sd, R.sn, R.st, R.fa, R.rg, R.co, R.lo, R.pc, R.ws, x, R.n, R.one, R.two, R.wn, R.mn)
def RS.u_n (R : RS) (x : Int32) : RS := (R.a, R.im, R.tr, R.lf, R.sd, R.sn, R.st, R.fa, R.rg, R.co, R.lo, R.pc, R.ws, R.ic, x, R.one, R.two, R.wn, R.mn)
def RS.u_one (R : RS) (x : Int32) : RS := (R.a, R.im, R.tr, R.lf, R.sd, R.sn, R.st, R.fa, R.rg, R.co, R.lo, R.pc, R.ws, R.ic, R.n, x, R.two, R.wn, R.mn)
def RS.u_two (R : RS) (x : Int32) : RS := (R.a, R.im, R.tr, R.lf, R.sd, R.sn, R.st, R.fa, R.rg, R.co, R.lo, R.pc, R.ws, R.ic, R.n, R.one, x, R.wn, R.mn)
def RS.u_wn (R : RS) (x : Int32) : RS := (R.a, R.im, R.tr, R.lf, R.sd, R.sn, R.st, R.fa, R.rg, R.co, R.lo, R.pc, R.ws, R.ic, R.n, R.one, R.two, x, R.mn)
def RS.u_mn (R : RS) (x : Int32) : RS := (R.a, R.im, R.tr, R.lf, R.sd, R.sn, R.st, R.fa, R.rg, R.co, R.lo, R.pc, R.ws, R.ic, R.n, R.one, R.two, R.wn, x)
def rO (o : Nat) (R : RS) : List Value := [.ref (o + 1), .ref (o + 2), .ref (o + 3), .ref (o + 4), .int R.n, .ref (o + 5), .ref (o + 6), .ref (o + 7), .ref (o + 8), .ref (o + 9), .ref (o + 10), .ref (o + 11), .ref (o + 12), .int R.one, .int R.two, .ref (o + 13), .int R.wn, .ref (o + 14), .int R.mn]
def rC (o : Nat) (R : RS) : pW := [.inr (9, rO o R), .inl (0, 37340, .inl R.a), .inl (0, 37340, .inl R.im), .inl (0, 240, .inl R.tr), .inl (0, 1600, .inl R.lf), .inl (0, 1778, .inl R.sd), .inl (2, 80, .inl R.sn), .inl (0, 40, .inl R.st), .inl (0, 80, .inl R.fa), .inl (0, 80, .inl R.rg), .inl (0, 40, .inl R.co), .inl (0, 40, .inl R.lo), .inl (0, 40, .inl R.pc), .inl (0, 80, .inl R.ws), .inl (0, 80, .inl R.ic)]
def rW (A : pW) (R : RS) : pW := A ++ rC A.length R
theorem app_get {A X : pW} {i : Nat} : (A ++ X)[A.length + i]? = X[i]? := by rw [List.getElem?_append_right (Nat.le_add_right _ _), Nat.add_sub_cancel_left]
theorem app_set {A X : pW} {i : Nat} {c : pCell} : (A ++ X).set (A.length + i) c = A ++ X.set i c := by
  rw [List.set_append_right _ _ (Nat.le_add_right _ _), Nat.add_sub_cancel_left]
theorem rg_o {A : pW} {R : RS} : (rW A R)[A.length]? = some (.inr (9, rO A.length R)) := app_get (i := 0)
theorem rg_a {A : pW} {R : RS} : (rW A R)[A.length + 1]? = some (.inl (0, 37340, .inl R.a)) := app_get
theorem rg_im {A : pW} {R : RS} : (rW A R)[A.length + 2]? = some (.inl (0, 37340, .inl R.im)) := app_get
theorem rg_tr {A : pW} {R : RS} : (rW A R)[A.length + 3]? = some (.inl (0, 240, .inl R.tr)) := app_get
theorem rg_lf {A : pW} {R : RS} : (rW A R)[A.length + 4]? = some (.inl (0, 1600, .inl R.lf)) := app_get
theorem rg_sd {A : pW} {R : RS} : (rW A R)[A.length + 5]? = some (.inl (0, 1778, .inl R.sd)) := app_get
theorem rg_sn {A : pW} {R : RS} : (rW A R)[A.length + 6]? = some (.inl (2, 80, .inl R.sn)) := app_get
theorem rg_st {A : pW} {R : RS} : (rW A R)[A.length + 7]? = some (.inl (0, 40, .inl R.st)) := app_get
theorem rg_fa {A : pW} {R : RS} : (rW A R)[A.length + 8]? = some (.inl (0, 80, .inl R.fa)) := app_get
theorem rg_rg {A : pW} {R : RS} : (rW A R)[A.length + 9]? = some (.inl (0, 80, .inl R.rg)) := app_get
theorem rg_co {A : pW} {R : RS} : (rW A R)[A.length + 10]? = some (.inl (0, 40, .inl R.co)) := app_get
theorem rg_lo {A : pW} {R : RS} : (rW A R)[A.length + 11]? = some (.inl (0, 40, .inl R.lo)) := app_get
theorem rg_pc {A : pW} {R : RS} : (rW A R)[A.length + 12]? = some (.inl (0, 40, .inl R.pc)) := app_get
theorem rg_ws {A : pW} {R : RS} : (rW A R)[A.length + 13]? = some (.inl (0, 80, .inl R.ws)) := app_get
theorem rg_ic {A : pW} {R : RS} : (rW A R)[A.length + 14]? = some (.inl (0, 80, .inl R.ic)) := app_get
theorem rs_a {A : pW} {R : RS} {f : Nat → Int32} : (rW A R).set (A.length + 1) (.inl (0, 37340, .inl f)) = rW A (R.u_a f) := app_set
theorem rs_im {A : pW} {R : RS} {f : Nat → Int32} : (rW A R).set (A.length + 2) (.inl (0, 37340, .inl f)) = rW A (R.u_im f) := app_set
theorem rs_tr {A : pW} {R : RS} {f : Nat → Int32} : (rW A R).set (A.length + 3) (.inl (0, 240, .inl f)) = rW A (R.u_tr f) := app_set
theorem rs_lf {A : pW} {R : RS} {f : Nat → Int32} : (rW A R).set (A.length + 4) (.inl (0, 1600, .inl f)) = rW A (R.u_lf f) := app_set
theorem rs_sd {A : pW} {R : RS} {f : Nat → Int32} : (rW A R).set (A.length + 5) (.inl (0, 1778, .inl f)) = rW A (R.u_sd f) := app_set
theorem rs_sn {A : pW} {R : RS} {f : Nat → Int32} : (rW A R).set (A.length + 6) (.inl (2, 80, .inl f)) = rW A (R.u_sn f) := app_set
theorem rs_st {A : pW} {R : RS} {f : Nat → Int32} : (rW A R).set (A.length + 7) (.inl (0, 40, .inl f)) = rW A (R.u_st f) := app_set
theorem rs_fa {A : pW} {R : RS} {f : Nat → Int32} : (rW A R).set (A.length + 8) (.inl (0, 80, .inl f)) = rW A (R.u_fa f) := app_set
theorem rs_rg {A : pW} {R : RS} {f : Nat → Int32} : (rW A R).set (A.length + 9) (.inl (0, 80, .inl f)) = rW A (R.u_rg f) := app_set
theorem rs_co {A : pW} {R : RS} {f : Nat → Int32} : (rW A R).set (A.length + 10) (.inl (0, 40, .inl f)) = rW A (R.u_co f) := app_set
theorem rs_lo {A : pW} {R : RS} {f : Nat → Int32} : (rW A R).set (A.length + 11) (.inl (0, 40, .inl f)) = rW A (R.u_lo f) := app_set
theorem rs_pc {A : pW} {R : RS} {f : Nat → Int32} : (rW A R).set (A.length + 12) (.inl (0, 40, .inl f)) = rW A (R.u_pc f) := app_set
theorem rs_ws {A : pW} {R : RS} {f : Nat → Int32} : (rW A R).set (A.length + 13) (.inl (0, 80, .inl f)) = rW A (R.u_ws f) := app_set
theorem rs_ic {A : pW} {R : RS} {f : Nat → Int32} : (rW A R).set (A.length + 14) (.inl (0, 80, .inl f)) = rW A (R.u_ic f) := app_set
theorem rs_n {A : pW} {R : RS} {x : Int32} : (rW A R).set A.length (.inr (9, (rO A.length R).set 4 (.int x))) = rW A (R.u_n x) := app_set (i := 0)
theorem rs_one {A : pW} {R : RS} {x : Int32} : (rW A R).set A.length (.inr (9, (rO A.length R).set 13 (.int x))) = rW A (R.u_one x) := app_set (i := 0)
theorem rs_two {A : pW} {R : RS} {x : Int32} : (rW A R).set A.length (.inr (9, (rO A.length R).set 14 (.int x))) = rW A (R.u_two x) := app_set (i := 0)
theorem rs_wn {A : pW} {R : RS} {x : Int32} : (rW A R).set A.length (.inr (9, (rO A.length R).set 16 (.int x))) = rW A (R.u_wn x) := app_set (i := 0)
theorem rs_mn {A : pW} {R : RS} {x : Int32} : (rW A R).set A.length (.inr (9, (rO A.length R).set 18 (.int x))) = rW A (R.u_mn x) := app_set (i := 0)
/-- instructions over small numbers -/
theorem s_iaddN {pc a b c : Nat} {lv : pLv} {st : List Value} {w : pW} (h : a + b = c) : pS1 .iadd pc [] lv (.int (nI b) :: .int (nI a) :: st) w = some (.inl (pc + 1, lv, .int (nI c) :: st, w)) := by
  subst h
  rw [← nI_add]
  rfl
theorem s_imulN {pc a b c : Nat} {lv : pLv} {st : List Value} {w : pW} (h : a * b = c) : pS1 .imul pc [] lv (.int (nI b) :: .int (nI a) :: st) w = some (.inl (pc + 1, lv, .int (nI c) :: st, w)) := by
  subst h
  rw [← nI_mul]
  rfl
theorem nI_sub {a b : Nat} (h : b ≤ a) : nI a - nI b = nI (a - b) := by
  have e : nI (a - b) + nI b = nI a := by rw [nI_add, Nat.sub_add_cancel h]
  rw [← e, Int32.add_sub_cancel]
theorem s_isubN {pc a b c : Nat} {lv : pLv} {st : List Value} {w : pW} (hb : b ≤ a) (h : a - b = c) : pS1 .isub pc [] lv (.int (nI b) :: .int (nI a) :: st) w = some (.inl (pc + 1, lv, .int (nI c) :: st, w)) := by
  subst h
  rw [← nI_sub hb]
  rfl
theorem s_ialdN {pc a n kd k : Nat} {lv : pLv} {st : List Value} {w : pW} {f : Nat → Int32} {v : Int32} (hw : w[a]? = some (.inl (kd, n, .inl f))) (hk : k < n) (hn : n < 2 ^ 31) (hd : kd = 0) (hv : f k = v) : pS1 .iaload pc [] lv (.int (nI k) :: .ref a :: st) w = some (.inl (pc + 1, lv, .int v :: st, w)) := by
  subst hd
  subst hv
  have h := s_iald (pc := pc) (lv := lv) (st := st) hw (pInB_nI hk hn)
  rw [nI_clamp (by omega)] at h
  exact h
theorem s_iastN {pc a n k : Nat} {lv : pLv} {st : List Value} {w w' : pW} {f : Nat → Int32} {y : Int32} (hw : w[a]? = some (.inl (0, n, .inl f))) (hk : k < n) (hn : n < 2 ^ 31) (hs : w.set a (.inl (0, n, .inl (upd f k y))) = w') : pS1 .iastore pc [] lv (.int y :: .int (nI k) :: .ref a :: st) w = some (.inl (pc + 1, lv, st, w')) := by
  subst hs
  have h := s_iast (pc := pc) (lv := lv) (st := st) (y := y) hw (pInB_nI hk hn)
  rw [nI_clamp (by omega)] at h
  exact h
theorem s_putfN {pc idx ci k e a : Nat} {lv : pLv} {st : List Value} {w w' : pW} {fs : List Value} {v : Value} (hw : w[a]? = some (.inr (ci, fs))) (hk : k < fs.length) (hf : pFits (pTf ci k) v = true) (hs : w.set a (.inr (ci, fs.set k v)) = w') : pS1 (.putfield idx) pc [ci, k, e] lv (v :: .ref a :: st) w = some (.inl (pc + 3, lv, st, w')) := by
  subst hs
  exact s_putf hw hk hf
theorem nI_irem {a b : Nat} (ha : a < 2 ^ 31) (hb : b < 2 ^ 31) : nI a - nI a / nI b * nI b = nI (a % b) := by
  have h1 : nI a / nI b = nI (a / b) := (Int32.ofNat_div ha hb).symm
  rw [h1, nI_mul, nI_sub (Nat.div_mul_le_self a b)]
  congr 1
  have := Nat.div_add_mod a b
  rw [Nat.mul_comm] at this
  omega
theorem s_iremN {pc a b c : Nat} {lv : pLv} {st : List Value} {w : pW} (ha : a < 2 ^ 31) (hb : b < 2 ^ 31) (h0 : 0 < b) (h : a % b = c) : pS1 .irem pc [] lv (.int (nI b) :: .int (nI a) :: st) w = some (.inl (pc + 1, lv, .int (nI c) :: st, w)) := by
  subst h
  rw [← nI_irem ha hb]
  show pDiv (pc + 1) lv (.int (nI b) :: .int (nI a) :: st) w (fun x y => x - x / y * y) = _
  unfold pDiv
  have : ¬ nI b = 0 := fun e => by
    have := (nI_eq (a := b) (b := 0) hb (by decide)).mp e
    omega
  simp only [this, decide_false, cond_false]
  rfl
theorem s_iincN {pc k : Nat} {n : Int} {lv lv' : pLv} {st : List Value} {w : pW} {x y : Int32} (h : pGet lv k = some (.int x)) (hy : x + Int32.ofInt n = y) (h2 : pSet1 lv k (.int y) = lv') : pS1 (.iinc k n) pc [] lv st w = some (.inl (pc + 3, lv', st, w)) := by
  subst h2
  subst hy
  show pInc (pc + 3) lv k n st w = _
  unfold pInc
  rw [h]
  rfl
/-- the state of the rows of triangles -/
def N3 (R : RS) (f g : Nat → Int32) (x : Int32) : RS := ((R.u_tr f).u_lf g).u_n x
theorem n3_self {R : RS} : N3 R R.tr R.lf R.n = R := by dsimp only [N3, RS.a, RS.u_a, RS.im, RS.u_im, RS.tr, RS.u_tr, RS.lf, RS.u_lf, RS.sd, RS.u_sd, RS.sn, RS.u_sn, RS.st, RS.u_st, RS.fa, RS.u_fa, RS.rg, RS.u_rg, RS.co, RS.u_co, RS.lo, RS.u_lo, RS.pc, RS.u_pc, RS.ws, RS.u_ws, RS.ic, RS.u_ic, RS.n, RS.u_n, RS.one, RS.u_one, RS.two, RS.u_two, RS.wn, RS.u_wn, RS.mn, RS.u_mn]
theorem n3_n {o : Nat} {R : RS} {f g : Nat → Int32} {x : Int32} : (rO o (N3 R f g x))[4]? = some (.int x) := rfl
theorem n3_a {A : pW} {R : RS} {f g : Nat → Int32} {x : Int32} : (rW A (N3 R f g x))[A.length + 1]? = some (.inl (0, 37340, .inl R.a)) := rg_a
theorem n3_tr {A : pW} {R : RS} {f g : Nat → Int32} {x : Int32} : (rW A (N3 R f g x))[A.length + 3]? = some (.inl (0, 240, .inl f)) := rg_tr
theorem n3_lf {A : pW} {R : RS} {f g : Nat → Int32} {x : Int32} : (rW A (N3 R f g x))[A.length + 4]? = some (.inl (0, 1600, .inl g)) := rg_lf
theorem n3s_tr {A : pW} {R : RS} {f f' g : Nat → Int32} {x : Int32} : (rW A (N3 R f g x)).set (A.length + 3) (.inl (0, 240, .inl f')) = rW A (N3 R f' g x) := by
  rw [rs_tr, show (N3 R f g x).u_tr f' = N3 R f' g x from by dsimp only [N3, RS.a, RS.u_a, RS.im, RS.u_im, RS.tr, RS.u_tr, RS.lf, RS.u_lf, RS.sd, RS.u_sd, RS.sn, RS.u_sn, RS.st, RS.u_st, RS.fa, RS.u_fa, RS.rg, RS.u_rg, RS.co, RS.u_co, RS.lo, RS.u_lo, RS.pc, RS.u_pc, RS.ws, RS.u_ws, RS.ic, RS.u_ic, RS.n, RS.u_n, RS.one, RS.u_one, RS.two, RS.u_two, RS.wn, RS.u_wn, RS.mn, RS.u_mn]]
theorem n3s_lf {A : pW} {R : RS} {f g g' : Nat → Int32} {x : Int32} : (rW A (N3 R f g x)).set (A.length + 4) (.inl (0, 1600, .inl g')) = rW A (N3 R f g' x) := by
  rw [rs_lf, show (N3 R f g x).u_lf g' = N3 R f g' x from by dsimp only [N3, RS.a, RS.u_a, RS.im, RS.u_im, RS.tr, RS.u_tr, RS.lf, RS.u_lf, RS.sd, RS.u_sd, RS.sn, RS.u_sn, RS.st, RS.u_st, RS.fa, RS.u_fa, RS.rg, RS.u_rg, RS.co, RS.u_co, RS.lo, RS.u_lo, RS.pc, RS.u_pc, RS.ws, RS.u_ws, RS.ic, RS.u_ic, RS.n, RS.u_n, RS.one, RS.u_one, RS.two, RS.u_two, RS.wn, RS.u_wn, RS.mn, RS.u_mn]]
theorem n3s_n {A : pW} {R : RS} {f g : Nat → Int32} {x x' : Int32} : (rW A (N3 R f g x)).set A.length (.inr (9, (rO A.length (N3 R f g x)).set 4 (.int x'))) = rW A (N3 R f g x') := by
  rw [rs_n, show (N3 R f g x).u_n x' = N3 R f g x' from by dsimp only [N3, RS.a, RS.u_a, RS.im, RS.u_im, RS.tr, RS.u_tr, RS.lf, RS.u_lf, RS.sd, RS.u_sd, RS.sn, RS.u_sn, RS.st, RS.u_st, RS.fa, RS.u_fa, RS.rg, RS.u_rg, RS.co, RS.u_co, RS.lo, RS.u_lo, RS.pc, RS.u_pc, RS.ws, RS.u_ws, RS.ic, RS.u_ic, RS.n, RS.u_n, RS.one, RS.u_one, RS.two, RS.u_two, RS.wn, RS.u_wn, RS.mn, RS.u_mn]]
