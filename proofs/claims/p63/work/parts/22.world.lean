/-! THE WORLDS: a mesh's state in one tuple, its cells in a row from m on. By program (wip/p63/mkC.py). -/
abbrev St : Type := (Nat → Int) × (Nat → Int) × (Nat → Int) × (Nat → Int64) × (Nat → Int) × (Nat → Int) × (Int64) × (Int) × (Int) × (Nat → Int) × (Nat → Int) × (Nat → Int) × (Nat → Int) × (Nat → Int64) × (Nat → Int) × (Int) × (Int) × (Nat → Int) × (Nat → Int64) × (Nat → Int) × (Int)
def St.xs (S : St) : Nat → Int := S.1
def St.ys (S : St) : Nat → Int := S.2.1
def St.hs (S : St) : Nat → Int := S.2.2.1
def St.fx (S : St) : Nat → Int64 := S.2.2.2.1
def St.hx (S : St) : Nat → Int := S.2.2.2.2.1
def St.hy (S : St) : Nat → Int := S.2.2.2.2.2.1
def St.th (S : St) : Int64 := S.2.2.2.2.2.2.1
def St.hn (S : St) : Int := S.2.2.2.2.2.2.2.1
def St.g (S : St) : Int := S.2.2.2.2.2.2.2.2.1
def St.ap (S : St) : Nat → Int := S.2.2.2.2.2.2.2.2.2.1
def St.ow (S : St) : Nat → Int := S.2.2.2.2.2.2.2.2.2.2.1
def St.co (S : St) : Nat → Int := S.2.2.2.2.2.2.2.2.2.2.2.1
def St.en (S : St) : Nat → Int := S.2.2.2.2.2.2.2.2.2.2.2.2.1
def St.ne (S : St) : Nat → Int64 := S.2.2.2.2.2.2.2.2.2.2.2.2.2.1
def St.rd (S : St) : Nat → Int := S.2.2.2.2.2.2.2.2.2.2.2.2.2.2.1
def St.tn (S : St) : Int := S.2.2.2.2.2.2.2.2.2.2.2.2.2.2.2.1
def St.ec (S : St) : Int := S.2.2.2.2.2.2.2.2.2.2.2.2.2.2.2.2.1
def St.li (S : St) : Nat → Int := S.2.2.2.2.2.2.2.2.2.2.2.2.2.2.2.2.2.1
def St.wa (S : St) : Nat → Int64 := S.2.2.2.2.2.2.2.2.2.2.2.2.2.2.2.2.2.2.1
def St.qu (S : St) : Nat → Int := S.2.2.2.2.2.2.2.2.2.2.2.2.2.2.2.2.2.2.2.1
def St.qn (S : St) : Int := S.2.2.2.2.2.2.2.2.2.2.2.2.2.2.2.2.2.2.2.2
def St.u_xs (S : St) (v : Nat → Int) : St := (v, S.ys, S.hs, S.fx, S.hx, S.hy, S.th, S.hn, S.g, S.ap, S.ow, S.co, S.en, S.ne, S.rd, S.tn, S.ec, S.li, S.wa, S.qu, S.qn)
def St.u_ys (S : St) (v : Nat → Int) : St := (S.xs, v, S.hs, S.fx, S.hx, S.hy, S.th, S.hn, S.g, S.ap, S.ow, S.co, S.en, S.ne, S.rd, S.tn, S.ec, S.li, S.wa, S.qu, S.qn)
def St.u_hs (S : St) (v : Nat → Int) : St := (S.xs, S.ys, v, S.fx, S.hx, S.hy, S.th, S.hn, S.g, S.ap, S.ow, S.co, S.en, S.ne, S.rd, S.tn, S.ec, S.li, S.wa, S.qu, S.qn)
def St.u_fx (S : St) (v : Nat → Int64) : St := (S.xs, S.ys, S.hs, v, S.hx, S.hy, S.th, S.hn, S.g, S.ap, S.ow, S.co, S.en, S.ne, S.rd, S.tn, S.ec, S.li, S.wa, S.qu, S.qn)
def St.u_hx (S : St) (v : Nat → Int) : St := (S.xs, S.ys, S.hs, S.fx, v, S.hy, S.th, S.hn, S.g, S.ap, S.ow, S.co, S.en, S.ne, S.rd, S.tn, S.ec, S.li, S.wa, S.qu, S.qn)
def St.u_hy (S : St) (v : Nat → Int) : St := (S.xs, S.ys, S.hs, S.fx, S.hx, v, S.th, S.hn, S.g, S.ap, S.ow, S.co, S.en, S.ne, S.rd, S.tn, S.ec, S.li, S.wa, S.qu, S.qn)
def St.u_th (S : St) (v : Int64) : St := (S.xs, S.ys, S.hs, S.fx, S.hx, S.hy, v, S.hn, S.g, S.ap, S.ow, S.co, S.en, S.ne, S.rd, S.tn, S.ec, S.li, S.wa, S.qu, S.qn)
def St.u_hn (S : St) (v : Int) : St := (S.xs, S.ys, S.hs, S.fx, S.hx, S.hy, S.th, v, S.g, S.ap, S.ow, S.co, S.en, S.ne, S.rd, S.tn, S.ec, S.li, S.wa, S.qu, S.qn)
def St.u_g (S : St) (v : Int) : St := (S.xs, S.ys, S.hs, S.fx, S.hx, S.hy, S.th, S.hn, v, S.ap, S.ow, S.co, S.en, S.ne, S.rd, S.tn, S.ec, S.li, S.wa, S.qu, S.qn)
def St.u_ap (S : St) (v : Nat → Int) : St := (S.xs, S.ys, S.hs, S.fx, S.hx, S.hy, S.th, S.hn, S.g, v, S.ow, S.co, S.en, S.ne, S.rd, S.tn, S.ec, S.li, S.wa, S.qu, S.qn)
def St.u_ow (S : St) (v : Nat → Int) : St := (S.xs, S.ys, S.hs, S.fx, S.hx, S.hy, S.th, S.hn, S.g, S.ap, v, S.co, S.en, S.ne, S.rd, S.tn, S.ec, S.li, S.wa, S.qu, S.qn)
def St.u_co (S : St) (v : Nat → Int) : St := (S.xs, S.ys, S.hs, S.fx, S.hx, S.hy, S.th, S.hn, S.g, S.ap, S.ow, v, S.en, S.ne, S.rd, S.tn, S.ec, S.li, S.wa, S.qu, S.qn)
def St.u_en (S : St) (v : Nat → Int) : St := (S.xs, S.ys, S.hs, S.fx, S.hx, S.hy, S.th, S.hn, S.g, S.ap, S.ow, S.co, v, S.ne, S.rd, S.tn, S.ec, S.li, S.wa, S.qu, S.qn)
def St.u_ne (S : St) (v : Nat → Int64) : St := (S.xs, S.ys, S.hs, S.fx, S.hx, S.hy, S.th, S.hn, S.g, S.ap, S.ow, S.co, S.en, v, S.rd, S.tn, S.ec, S.li, S.wa, S.qu, S.qn)
def St.u_rd (S : St) (v : Nat → Int) : St := (S.xs, S.ys, S.hs, S.fx, S.hx, S.hy, S.th, S.hn, S.g, S.ap, S.ow, S.co, S.en, S.ne, v, S.tn, S.ec, S.li, S.wa, S.qu, S.qn)
def St.u_tn (S : St) (v : Int) : St := (S.xs, S.ys, S.hs, S.fx, S.hx, S.hy, S.th, S.hn, S.g, S.ap, S.ow, S.co, S.en, S.ne, S.rd, v, S.ec, S.li, S.wa, S.qu, S.qn)
def St.u_ec (S : St) (v : Int) : St := (S.xs, S.ys, S.hs, S.fx, S.hx, S.hy, S.th, S.hn, S.g, S.ap, S.ow, S.co, S.en, S.ne, S.rd, S.tn, v, S.li, S.wa, S.qu, S.qn)
def St.u_li (S : St) (v : Nat → Int) : St := (S.xs, S.ys, S.hs, S.fx, S.hx, S.hy, S.th, S.hn, S.g, S.ap, S.ow, S.co, S.en, S.ne, S.rd, S.tn, S.ec, v, S.wa, S.qu, S.qn)
def St.u_wa (S : St) (v : Nat → Int64) : St := (S.xs, S.ys, S.hs, S.fx, S.hx, S.hy, S.th, S.hn, S.g, S.ap, S.ow, S.co, S.en, S.ne, S.rd, S.tn, S.ec, S.li, v, S.qu, S.qn)
def St.u_qu (S : St) (v : Nat → Int) : St := (S.xs, S.ys, S.hs, S.fx, S.hx, S.hy, S.th, S.hn, S.g, S.ap, S.ow, S.co, S.en, S.ne, S.rd, S.tn, S.ec, S.li, S.wa, v, S.qn)
def St.u_qn (S : St) (v : Int) : St := (S.xs, S.ys, S.hs, S.fx, S.hx, S.hy, S.th, S.hn, S.g, S.ap, S.ow, S.co, S.en, S.ne, S.rd, S.tn, S.ec, S.li, S.wa, S.qu, v)
def mB (m : Nat) (S : St) : pW := [.inr (1, [.ref (m + 1), .ref (m + 8), .ref (m + 9), .ref (m + 10), .ref (m + 11), .ref (m + 12), .ref (m + 13), .int (iI S.tn), .int (iI S.ec), .ref (m + 14), .ref (m + 15), .ref (m + 16), .int (iI S.qn)]), .inr (5, [.ref (m + 2), .ref (m + 3), .ref (m + 4), .ref (m + 5), .ref (m + 6), .ref (m + 7), .long S.th, .int (iI S.hn), .int (iI S.g)]), .inl (0, 40, .inl (fun j => iI (S.xs j))), .inl (0, 40, .inl (fun j => iI (S.ys j))), .inl (0, 40, .inl (fun j => iI (S.hs j))), .inl (1, 40, .inr (.inl S.fx)), .inl (0, 8, .inl (fun j => iI (S.hx j))), .inl (0, 8, .inl (fun j => iI (S.hy j))), .inl (0, 1600, .inl (fun j => iI (S.ap j))), .inl (0, 1600, .inl (fun j => iI (S.ow j))), .inl (0, 222, .inl (fun j => iI (S.co j))), .inl (0, 226, .inl (fun j => iI (S.en j))), .inl (1, 40, .inr (.inl S.ne)), .inl (0, 40, .inl (fun j => iI (S.rd j))), .inl (1, 40, .inr (.inl (fun j => lI (S.li j)))), .inl (1, 40, .inr (.inl S.wa)), .inl (0, 800, .inl (fun j => iI (S.qu j)))]
theorem mB_0 (m : Nat) (S : St) (post : pW) : (mB m S ++ post)[0]? = some (.inr (1, [.ref (m + 1), .ref (m + 8), .ref (m + 9), .ref (m + 10), .ref (m + 11), .ref (m + 12), .ref (m + 13), .int (iI S.tn), .int (iI S.ec), .ref (m + 14), .ref (m + 15), .ref (m + 16), .int (iI S.qn)])) := rfl
theorem mB_1 (m : Nat) (S : St) (post : pW) : (mB m S ++ post)[1]? = some (.inr (5, [.ref (m + 2), .ref (m + 3), .ref (m + 4), .ref (m + 5), .ref (m + 6), .ref (m + 7), .long S.th, .int (iI S.hn), .int (iI S.g)])) := rfl
theorem mB_xs (m : Nat) (S : St) (post : pW) : (mB m S ++ post)[2]? = some (.inl (0, 40, .inl (fun j => iI (S.xs j)))) := rfl
theorem mB_s_xs (m : Nat) (S : St) (post : pW) (v : Nat → Int) : (mB m S ++ post).set 2 (.inl (0, 40, .inl (fun j => iI (v j)))) = mB m (S.u_xs v) ++ post := by
  simp only [mB, List.cons_append, List.nil_append, List.set_cons_succ, List.set_cons_zero]
  rfl
theorem mB_ys (m : Nat) (S : St) (post : pW) : (mB m S ++ post)[3]? = some (.inl (0, 40, .inl (fun j => iI (S.ys j)))) := rfl
theorem mB_s_ys (m : Nat) (S : St) (post : pW) (v : Nat → Int) : (mB m S ++ post).set 3 (.inl (0, 40, .inl (fun j => iI (v j)))) = mB m (S.u_ys v) ++ post := by
  simp only [mB, List.cons_append, List.nil_append, List.set_cons_succ, List.set_cons_zero]
  rfl
theorem mB_hs (m : Nat) (S : St) (post : pW) : (mB m S ++ post)[4]? = some (.inl (0, 40, .inl (fun j => iI (S.hs j)))) := rfl
theorem mB_s_hs (m : Nat) (S : St) (post : pW) (v : Nat → Int) : (mB m S ++ post).set 4 (.inl (0, 40, .inl (fun j => iI (v j)))) = mB m (S.u_hs v) ++ post := by
  simp only [mB, List.cons_append, List.nil_append, List.set_cons_succ, List.set_cons_zero]
  rfl
theorem mB_fx (m : Nat) (S : St) (post : pW) : (mB m S ++ post)[5]? = some (.inl (1, 40, .inr (.inl S.fx))) := rfl
theorem mB_s_fx (m : Nat) (S : St) (post : pW) (v : Nat → Int64) : (mB m S ++ post).set 5 (.inl (1, 40, .inr (.inl v))) = mB m (S.u_fx v) ++ post := by
  simp only [mB, List.cons_append, List.nil_append, List.set_cons_succ, List.set_cons_zero]
  rfl
theorem mB_hx (m : Nat) (S : St) (post : pW) : (mB m S ++ post)[6]? = some (.inl (0, 8, .inl (fun j => iI (S.hx j)))) := rfl
theorem mB_s_hx (m : Nat) (S : St) (post : pW) (v : Nat → Int) : (mB m S ++ post).set 6 (.inl (0, 8, .inl (fun j => iI (v j)))) = mB m (S.u_hx v) ++ post := by
  simp only [mB, List.cons_append, List.nil_append, List.set_cons_succ, List.set_cons_zero]
  rfl
theorem mB_hy (m : Nat) (S : St) (post : pW) : (mB m S ++ post)[7]? = some (.inl (0, 8, .inl (fun j => iI (S.hy j)))) := rfl
theorem mB_s_hy (m : Nat) (S : St) (post : pW) (v : Nat → Int) : (mB m S ++ post).set 7 (.inl (0, 8, .inl (fun j => iI (v j)))) = mB m (S.u_hy v) ++ post := by
  simp only [mB, List.cons_append, List.nil_append, List.set_cons_succ, List.set_cons_zero]
  rfl
theorem mB_ap (m : Nat) (S : St) (post : pW) : (mB m S ++ post)[8]? = some (.inl (0, 1600, .inl (fun j => iI (S.ap j)))) := rfl
theorem mB_s_ap (m : Nat) (S : St) (post : pW) (v : Nat → Int) : (mB m S ++ post).set 8 (.inl (0, 1600, .inl (fun j => iI (v j)))) = mB m (S.u_ap v) ++ post := by
  simp only [mB, List.cons_append, List.nil_append, List.set_cons_succ, List.set_cons_zero]
  rfl
theorem mB_ow (m : Nat) (S : St) (post : pW) : (mB m S ++ post)[9]? = some (.inl (0, 1600, .inl (fun j => iI (S.ow j)))) := rfl
theorem mB_s_ow (m : Nat) (S : St) (post : pW) (v : Nat → Int) : (mB m S ++ post).set 9 (.inl (0, 1600, .inl (fun j => iI (v j)))) = mB m (S.u_ow v) ++ post := by
  simp only [mB, List.cons_append, List.nil_append, List.set_cons_succ, List.set_cons_zero]
  rfl
theorem mB_co (m : Nat) (S : St) (post : pW) : (mB m S ++ post)[10]? = some (.inl (0, 222, .inl (fun j => iI (S.co j)))) := rfl
theorem mB_s_co (m : Nat) (S : St) (post : pW) (v : Nat → Int) : (mB m S ++ post).set 10 (.inl (0, 222, .inl (fun j => iI (v j)))) = mB m (S.u_co v) ++ post := by
  simp only [mB, List.cons_append, List.nil_append, List.set_cons_succ, List.set_cons_zero]
  rfl
theorem mB_en (m : Nat) (S : St) (post : pW) : (mB m S ++ post)[11]? = some (.inl (0, 226, .inl (fun j => iI (S.en j)))) := rfl
theorem mB_s_en (m : Nat) (S : St) (post : pW) (v : Nat → Int) : (mB m S ++ post).set 11 (.inl (0, 226, .inl (fun j => iI (v j)))) = mB m (S.u_en v) ++ post := by
  simp only [mB, List.cons_append, List.nil_append, List.set_cons_succ, List.set_cons_zero]
  rfl
theorem mB_ne (m : Nat) (S : St) (post : pW) : (mB m S ++ post)[12]? = some (.inl (1, 40, .inr (.inl S.ne))) := rfl
theorem mB_s_ne (m : Nat) (S : St) (post : pW) (v : Nat → Int64) : (mB m S ++ post).set 12 (.inl (1, 40, .inr (.inl v))) = mB m (S.u_ne v) ++ post := by
  simp only [mB, List.cons_append, List.nil_append, List.set_cons_succ, List.set_cons_zero]
  rfl
theorem mB_rd (m : Nat) (S : St) (post : pW) : (mB m S ++ post)[13]? = some (.inl (0, 40, .inl (fun j => iI (S.rd j)))) := rfl
theorem mB_s_rd (m : Nat) (S : St) (post : pW) (v : Nat → Int) : (mB m S ++ post).set 13 (.inl (0, 40, .inl (fun j => iI (v j)))) = mB m (S.u_rd v) ++ post := by
  simp only [mB, List.cons_append, List.nil_append, List.set_cons_succ, List.set_cons_zero]
  rfl
theorem mB_li (m : Nat) (S : St) (post : pW) : (mB m S ++ post)[14]? = some (.inl (1, 40, .inr (.inl (fun j => lI (S.li j))))) := rfl
theorem mB_s_li (m : Nat) (S : St) (post : pW) (v : Nat → Int) : (mB m S ++ post).set 14 (.inl (1, 40, .inr (.inl (fun j => lI (v j))))) = mB m (S.u_li v) ++ post := by
  simp only [mB, List.cons_append, List.nil_append, List.set_cons_succ, List.set_cons_zero]
  rfl
theorem mB_wa (m : Nat) (S : St) (post : pW) : (mB m S ++ post)[15]? = some (.inl (1, 40, .inr (.inl S.wa))) := rfl
theorem mB_s_wa (m : Nat) (S : St) (post : pW) (v : Nat → Int64) : (mB m S ++ post).set 15 (.inl (1, 40, .inr (.inl v))) = mB m (S.u_wa v) ++ post := by
  simp only [mB, List.cons_append, List.nil_append, List.set_cons_succ, List.set_cons_zero]
  rfl
theorem mB_qu (m : Nat) (S : St) (post : pW) : (mB m S ++ post)[16]? = some (.inl (0, 800, .inl (fun j => iI (S.qu j)))) := rfl
theorem mB_s_qu (m : Nat) (S : St) (post : pW) (v : Nat → Int) : (mB m S ++ post).set 16 (.inl (0, 800, .inl (fun j => iI (v j)))) = mB m (S.u_qu v) ++ post := by
  simp only [mB, List.cons_append, List.nil_append, List.set_cons_succ, List.set_cons_zero]
  rfl
theorem mB_s_tn (m : Nat) (S : St) (post : pW) (v : Int) : (mB m S ++ post).set 0 (.inr (1, ([.ref (m + 1), .ref (m + 8), .ref (m + 9), .ref (m + 10), .ref (m + 11), .ref (m + 12), .ref (m + 13), .int (iI S.tn), .int (iI S.ec), .ref (m + 14), .ref (m + 15), .ref (m + 16), .int (iI S.qn)] : List Value).set 7 (.int (iI v)))) = mB m (S.u_tn v) ++ post := by
  simp only [mB, List.cons_append, List.nil_append, List.set_cons_succ, List.set_cons_zero]
  rfl
theorem mB_s_ec (m : Nat) (S : St) (post : pW) (v : Int) : (mB m S ++ post).set 0 (.inr (1, ([.ref (m + 1), .ref (m + 8), .ref (m + 9), .ref (m + 10), .ref (m + 11), .ref (m + 12), .ref (m + 13), .int (iI S.tn), .int (iI S.ec), .ref (m + 14), .ref (m + 15), .ref (m + 16), .int (iI S.qn)] : List Value).set 8 (.int (iI v)))) = mB m (S.u_ec v) ++ post := by
  simp only [mB, List.cons_append, List.nil_append, List.set_cons_succ, List.set_cons_zero]
  rfl
theorem mB_s_qn (m : Nat) (S : St) (post : pW) (v : Int) : (mB m S ++ post).set 0 (.inr (1, ([.ref (m + 1), .ref (m + 8), .ref (m + 9), .ref (m + 10), .ref (m + 11), .ref (m + 12), .ref (m + 13), .int (iI S.tn), .int (iI S.ec), .ref (m + 14), .ref (m + 15), .ref (m + 16), .int (iI S.qn)] : List Value).set 12 (.int (iI v)))) = mB m (S.u_qn v) ++ post := by
  simp only [mB, List.cons_append, List.nil_append, List.set_cons_succ, List.set_cons_zero]
  rfl
theorem mB_s_th (m : Nat) (S : St) (post : pW) (v : Int64) : (mB m S ++ post).set 1 (.inr (5, ([.ref (m + 2), .ref (m + 3), .ref (m + 4), .ref (m + 5), .ref (m + 6), .ref (m + 7), .long S.th, .int (iI S.hn), .int (iI S.g)] : List Value).set 6 (.long v))) = mB m (S.u_th v) ++ post := by
  simp only [mB, List.cons_append, List.nil_append, List.set_cons_succ, List.set_cons_zero]
  rfl
theorem mB_s_hn (m : Nat) (S : St) (post : pW) (v : Int) : (mB m S ++ post).set 1 (.inr (5, ([.ref (m + 2), .ref (m + 3), .ref (m + 4), .ref (m + 5), .ref (m + 6), .ref (m + 7), .long S.th, .int (iI S.hn), .int (iI S.g)] : List Value).set 7 (.int (iI v)))) = mB m (S.u_hn v) ++ post := by
  simp only [mB, List.cons_append, List.nil_append, List.set_cons_succ, List.set_cons_zero]
  rfl
theorem mB_s_g (m : Nat) (S : St) (post : pW) (v : Int) : (mB m S ++ post).set 1 (.inr (5, ([.ref (m + 2), .ref (m + 3), .ref (m + 4), .ref (m + 5), .ref (m + 6), .ref (m + 7), .long S.th, .int (iI S.hn), .int (iI S.g)] : List Value).set 8 (.int (iI v)))) = mB m (S.u_g v) ++ post := by
  simp only [mB, List.cons_append, List.nil_append, List.set_cons_succ, List.set_cons_zero]
  rfl
theorem mB_len (m : Nat) (S : St) : (mB m S).length = 17 := rfl
/-- a run that ends with that answer in that world -/
theorem qx_run {j : Nat} {as : List Value} {w w1 : pW} {r : Option Value} (h : qC j as w (fun r' w' => r' = r ∧ w' = w1)) : pRun j as w r w1 := by
  obtain ⟨r', w', ⟨rfl, rfl⟩, h⟩ := h
  exact h
theorem qx_of {j : Nat} {as : List Value} {w w1 : pW} {r : Option Value} {Φ : Option Value → pW → Prop} (h : pRun j as w r w1) (hp : Φ r w1) : qC j as w Φ := ⟨r, w1, hp, h⟩
theorem qc_mono {j : Nat} {as : List Value} {w : pW} {Φ Ψ : Option Value → pW → Prop} (h : qC j as w Φ) (H : ∀ r w', Φ r w' → Ψ r w') : qC j as w Ψ := by
  obtain ⟨r, w', h1, h2⟩ := h
  exact ⟨r, w', H r w' h1, h2⟩
/-- with fewer locals known -/
theorem pe_few {i pc : Nat} {lv lv' : pLv} {st : List Value} {w : pW} {Φ : Option Value → pW → Prop} (h1 : pND lv = true) (h2 : pND lv' = true) (h : ∀ q ∈ lv, pGet lv' q.1 = some q.2) (K : qE i (pc, lv, st, w) Φ) : qE i (pc, lv', st, w) Φ := pe_less (lvLe_of h1 h2 h) K
theorem s_bit {pc : Nat} {lv : pLv} {st : List Value} {w : pW} {k : Nat} {z : Int} {x : Int64} (hz : z = (k : Int)) (hk : k < 64) : pS1 .land pc [] lv (.long (lI 1) :: .long ((x.toUInt64 >>> ((iI z).toInt64.toUInt64 &&& Int64.toUInt64 63)).toInt64) :: st) w = some (.inl (pc + 1, lv, .long (lI (bif bt x k then 1 else 0)) :: st, w)) := by
  subst hz
  rw [← bt_ask hk]
  rfl
theorem s_cmpbit {pc : Nat} {lv : pLv} {st : List Value} {w : pW} {b : Bool} : pS1 .lcmp pc [] lv (.long (lI 0) :: .long (lI (bif b then 1 else 0)) :: st) w = some (.inl (pc + 1, lv, .int (bI b) :: st, w)) := by
  cases b
  · rfl
  · exact s_lcmp_gt (x := 1) (y := 0) (by constructor <;> decide) (by constructor <;> decide) (by decide)
theorem s_bit1 {pc : Nat} {lv : pLv} {st : List Value} {w : pW} {k : Nat} {z : Int} (hz : z = (k : Int)) (hk : k < 64) : pS1 .lshl pc [] lv (.int (iI z) :: .long (lI 1) :: st) w = some (.inl (pc + 1, lv, .long (b1 k) :: st, w)) := by
  subst hz
  rw [← b1_mk hk]
  rfl
theorem s_bset {pc : Nat} {lv : pLv} {st : List Value} {w : pW} {k : Nat} {x : Int64} : pS1 .lor pc [] lv (.long (b1 k) :: .long x :: st) w = some (.inl (pc + 1, lv, .long (bSet x k) :: st, w)) := rfl
theorem s_bnot {pc : Nat} {lv : pLv} {st : List Value} {w : pW} {k : Nat} : pS1 .lxor pc [] lv (.long (-1) :: .long (b1 k) :: st) w = some (.inl (pc + 1, lv, .long (b1 k ^^^ -1) :: st, w)) := rfl
theorem s_bclr {pc : Nat} {lv : pLv} {st : List Value} {w : pW} {k : Nat} {x : Int64} : pS1 .land pc [] lv (.long (b1 k ^^^ -1) :: .long x :: st) w = some (.inl (pc + 1, lv, .long (bClr x k) :: st, w)) := rfl
theorem lg_ne {x y : Int64} (h : x ≠ y) : lg_cmp x y ≠ 0 := by
  unfold lg_cmp
  by_cases g : x > y
  · rw [if_pos g]
    decide
  · rw [if_neg g, if_neg h]
    decide
theorem lg_same (x : Int64) : lg_cmp x x = 0 := by
  unfold lg_cmp
  rw [if_neg (fun h => Int64.lt_irrefl h), if_pos rfl]
theorem s_ifeq_lg_e {pc : Nat} {lv : pLv} {st : List Value} {w : pW} {t : Nat} {off : Int} {x y : Int64} (h : x = y) : pS1 (.ifCond .eq off) pc [t] lv (.int (lg_cmp x y) :: st) w = some (.inl (t, lv, st, w)) := by
  subst h
  have h0 := lg_same x
  show (bif decide (lg_cmp x x = 0) then pGo1 t lv st w else pGo1 (pc + 3) lv st w) = _
  simp [h0]
  rfl
theorem s_ifeq_lg_n {pc : Nat} {lv : pLv} {st : List Value} {w : pW} {t : Nat} {off : Int} {x y : Int64} (h : x ≠ y) : pS1 (.ifCond .eq off) pc [t] lv (.int (lg_cmp x y) :: st) w = some (.inl (pc + 3, lv, st, w)) := by
  have h0 := lg_ne h
  show (bif decide (lg_cmp x y = 0) then pGo1 t lv st w else pGo1 (pc + 3) lv st w) = _
  simp [h0]
  rfl
theorem s_ifne_lg_e {pc : Nat} {lv : pLv} {st : List Value} {w : pW} {t : Nat} {off : Int} {x y : Int64} (h : x = y) : pS1 (.ifCond .ne off) pc [t] lv (.int (lg_cmp x y) :: st) w = some (.inl (pc + 3, lv, st, w)) := by
  subst h
  have h0 := lg_same x
  show (bif decide (¬ lg_cmp x x = 0) then pGo1 t lv st w else pGo1 (pc + 3) lv st w) = _
  simp [h0]
  rfl
theorem s_ifne_lg_n {pc : Nat} {lv : pLv} {st : List Value} {w : pW} {t : Nat} {off : Int} {x y : Int64} (h : x ≠ y) : pS1 (.ifCond .ne off) pc [t] lv (.int (lg_cmp x y) :: st) w = some (.inl (t, lv, st, w)) := by
  have h0 := lg_ne h
  show (bif decide (¬ lg_cmp x y = 0) then pGo1 t lv st w else pGo1 (pc + 3) lv st w) = _
  simp [h0]
  rfl
