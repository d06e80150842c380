/-! THE CLASS'S SMALL METHODS, on its world. Rows laid by program (wip/tools/lay.py, mkc.py, mk74.py). -/
/-- the class's world: its mesh (cells 1, 2, 9 to 17) and what is told (2 to 8); Q: the rest -/
def cM (xs : Nat → Int32) (ys : Nat → Int32) (hs : Nat → Int32) (fx : Nat → Int64) (hx : Nat → Int32) (hy : Nat → Int32) (th : Int64) (hn : Int32) (g : Int32) (ap : Nat → Int32) (ow : Nat → Int32) (co : Nat → Int32) (en : Nat → Int32) (ne : Nat → Int64) (rd : Nat → Int32) (tn : Int32) (ec : Int32) (li : Nat → Int64) (wa : Nat → Int64) (qu : Nat → Int32) (qn : Int32) (Q : pW) : pW := .inr (8, [.ref 1, .ref 18, .ref 35, .ref 38, .ref 41, .ref 45, .ref 48, .ref 51, .ref 54, .ref 56]) ::
  .inr (1, [.ref 2, .ref 9, .ref 10, .ref 11, .ref 12, .ref 13, .ref 14, .int tn, .int ec, .ref 15, .ref 16, .ref 17, .int qn]) ::
  .inr (5, [.ref 3, .ref 4, .ref 5, .ref 6, .ref 7, .ref 8, .long th, .int hn, .int g]) ::
  .inl (0, 40, .inl xs) :: .inl (0, 40, .inl ys) :: .inl (0, 40, .inl hs) :: .inl (1, 40, .inr (.inl fx)) :: .inl (0, 8, .inl hx) :: .inl (0, 8, .inl hy) ::
  .inl (0, 1600, .inl ap) :: .inl (0, 1600, .inl ow) :: .inl (0, 222, .inl co) :: .inl (0, 226, .inl en) :: .inl (1, 40, .inr (.inl ne)) :: .inl (0, 40, .inl rd) :: .inl (1, 40, .inr (.inl li)) :: .inl (1, 40, .inr (.inl wa)) :: .inl (0, 800, .inl qu) :: Q
def sdF (xs ys : Nat → Int32) (a b : Nat) (x y : Int32) : Int32 := (xs b - xs a) * (y - ys a) - (ys b - ys a) * (x - xs a)
theorem c_cornerOf {xs : Nat → Int32} {ys : Nat → Int32} {hs : Nat → Int32} {fx : Nat → Int64} {hx : Nat → Int32} {hy : Nat → Int32} {th : Int64} {hn : Int32} {g : Int32} {ap : Nat → Int32} {ow : Nat → Int32} {co : Nat → Int32} {en : Nat → Int32} {ne : Nat → Int64} {rd : Nat → Int32} {tn : Int32} {ec : Int32} {li : Nat → Int64} {wa : Nat → Int64} {qu : Nat → Int32} {qn : Int32} {Q : pW} {t k : Nat} (ht : t < 74) (hk : k < 3) : pRun 35 [.ref 1, .int (nI t), .int (nI k)] (cM xs ys hs fx hx hy th hn g ap ow co en ne rd tn ec li wa qu qn Q) (some (.int (co (3 * t + k)))) (cM xs ys hs fx hx hy th hn g ap ow co en ne rd tn ec li wa qu qn Q) := by
  refine pr_run rfl ?_
  refine pr_go rfl (s_aload_n rfl) ?_
  refine pr_go rfl (s_getf rfl rfl) ?_
  refine pr_go rfl s_iconst ?_
  refine pr_go rfl (s_iload_n rfl) ?_
  refine pr_go rfl (s_imulN (c := 3 * t) rfl) ?_
  refine pr_go rfl (s_iload_n rfl) ?_
  refine pr_go rfl (s_iaddN (c := (3 * t) + k) rfl) ?_
  refine pr_go rfl (s_ialdN (v := co (((3 * t) + k))) rfl (by omega) (by decide) rfl rfl) ?_
  exact pr_retE (r' := some (.int (co (((3 * t) + k))))) rfl s_retI rfl
theorem c_side {xs : Nat → Int32} {ys : Nat → Int32} {hs : Nat → Int32} {fx : Nat → Int64} {hx : Nat → Int32} {hy : Nat → Int32} {th : Int64} {hn : Int32} {g : Int32} {ap : Nat → Int32} {ow : Nat → Int32} {co : Nat → Int32} {en : Nat → Int32} {ne : Nat → Int64} {rd : Nat → Int32} {tn : Int32} {ec : Int32} {li : Nat → Int64} {wa : Nat → Int64} {qu : Nat → Int32} {qn : Int32} {Q : pW} {a b : Nat} {x y : Int32} (ha : a < 40) (hb : b < 40) : pRun 95 [.ref 2, .int (nI a), .int (nI b), .int x, .int y] (cM xs ys hs fx hx hy th hn g ap ow co en ne rd tn ec li wa qu qn Q) (some (.int (sdF xs ys a b x y))) (cM xs ys hs fx hx hy th hn g ap ow co en ne rd tn ec li wa qu qn Q) := by
  refine pr_run rfl ?_
  refine pr_go rfl (s_aload_n rfl) ?_
  refine pr_go rfl (s_getf rfl rfl) ?_
  refine pr_go rfl (s_iload_n rfl) ?_
  refine pr_go rfl (s_ialdN (v := xs (b)) rfl (by omega) (by decide) rfl rfl) ?_
  refine pr_go rfl (s_aload_n rfl) ?_
  refine pr_go rfl (s_getf rfl rfl) ?_
  refine pr_go rfl (s_iload_n rfl) ?_
  refine pr_go rfl (s_ialdN (v := xs (a)) rfl (by omega) (by decide) rfl rfl) ?_
  refine pr_go rfl s_isub ?_
  refine pr_go rfl (s_iload rfl) ?_
  refine pr_go rfl (s_aload_n rfl) ?_
  refine pr_go rfl (s_getf rfl rfl) ?_
  refine pr_go rfl (s_iload_n rfl) ?_
  refine pr_go rfl (s_ialdN (v := ys (a)) rfl (by omega) (by decide) rfl rfl) ?_
  refine pr_go rfl s_isub ?_
  refine pr_go rfl s_imul ?_
  refine pr_go rfl (s_aload_n rfl) ?_
  refine pr_go rfl (s_getf rfl rfl) ?_
  refine pr_go rfl (s_iload_n rfl) ?_
  refine pr_go rfl (s_ialdN (v := ys (b)) rfl (by omega) (by decide) rfl rfl) ?_
  refine pr_go rfl (s_aload_n rfl) ?_
  refine pr_go rfl (s_getf rfl rfl) ?_
  refine pr_go rfl (s_iload_n rfl) ?_
  refine pr_go rfl (s_ialdN (v := ys (a)) rfl (by omega) (by decide) rfl rfl) ?_
  refine pr_go rfl s_isub ?_
  refine pr_go rfl (s_iload_n rfl) ?_
  refine pr_go rfl (s_aload_n rfl) ?_
  refine pr_go rfl (s_getf rfl rfl) ?_
  refine pr_go rfl (s_iload_n rfl) ?_
  refine pr_go rfl (s_ialdN (v := xs (a)) rfl (by omega) (by decide) rfl rfl) ?_
  refine pr_go rfl s_isub ?_
  refine pr_go rfl s_imul ?_
  refine pr_go rfl s_isub ?_
  exact pr_retE (r' := some (.int ((((xs (b)) - (xs (a))) * ((y) - (ys (a)))) - (((ys (b)) - (ys (a))) * ((x) - (xs (a))))))) rfl s_retI rfl
theorem c_side3 {xs : Nat → Int32} {ys : Nat → Int32} {hs : Nat → Int32} {fx : Nat → Int64} {hx : Nat → Int32} {hy : Nat → Int32} {th : Int64} {hn : Int32} {g : Int32} {ap : Nat → Int32} {ow : Nat → Int32} {co : Nat → Int32} {en : Nat → Int32} {ne : Nat → Int64} {rd : Nat → Int32} {tn : Int32} {ec : Int32} {li : Nat → Int64} {wa : Nat → Int64} {qu : Nat → Int32} {qn : Int32} {Q : pW} {a b c : Nat} (ha : a < 40) (hb : b < 40) (hc : c < 40) : pRun 96 [.ref 2, .int (nI a), .int (nI b), .int (nI c)] (cM xs ys hs fx hx hy th hn g ap ow co en ne rd tn ec li wa qu qn Q) (some (.int (sdF xs ys a b (xs c) (ys c)))) (cM xs ys hs fx hx hy th hn g ap ow co en ne rd tn ec li wa qu qn Q) := by
  refine pr_run rfl ?_
  refine pr_go rfl (s_aload_n rfl) ?_
  refine pr_go rfl (s_iload_n rfl) ?_
  refine pr_go rfl (s_iload_n rfl) ?_
  refine pr_go rfl (s_aload_n rfl) ?_
  refine pr_go rfl (s_getf rfl rfl) ?_
  refine pr_go rfl (s_iload_n rfl) ?_
  refine pr_go rfl (s_ialdN (v := xs (c)) rfl (by omega) (by decide) rfl rfl) ?_
  refine pr_go rfl (s_aload_n rfl) ?_
  refine pr_go rfl (s_getf rfl rfl) ?_
  refine pr_go rfl (s_iload_n rfl) ?_
  refine pr_go rfl (s_ialdN (v := ys (c)) rfl (by omega) (by decide) rfl rfl) ?_
  refine pr_call rfl (s_invV rfl rfl rfl rfl) (c_side ha hb) ?_
  exact pr_retE (r' := some (.int (sdF xs ys a b (xs (c)) (ys (c))))) rfl s_retI rfl
