/-! THE CLASS DRAWS A NUMBER. Rows laid by program (wip/tools/lay.py, mkc.py, mk79b.py). -/
theorem c_draw {xs : Nat → Int32} {ys : Nat → Int32} {hs : Nat → Int32} {fx : Nat → Int64} {hx : Nat → Int32} {hy : Nat → Int32} {th : Int64} {hn : Int32} {ap : Nat → Int32} {ow : Nat → Int32} {co : Nat → Int32} {en : Nat → Int32} {ne : Nat → Int64} {rd : Nat → Int32} {tn : Int32} {ec : Int32} {li : Nat → Int64} {wa : Nat → Int64} {qu : Nat → Int32} {qn : Int32} {Q : pW} {d m : Nat} (hd : d < 30047) (hm : m ≤ 1000) : pRun 94 [.ref 2, .int (nI m)] (cM xs ys hs fx hx hy th hn (nI d) ap ow co en ne rd tn ec li wa qu qn Q) (some (.int (nI (dG d % (2 * m + 1)) - nI m))) (cM xs ys hs fx hx hy th hn (nI (dG d)) ap ow co en ne rd tn ec li wa qu qn Q) := by
  refine pr_run rfl ?_
  have h81 : d * 827 + 641 < 2 ^ 31 := by omega
  have h82 : (d * 827 + 641) % 30047 < 30047 := Nat.mod_lt _ (by decide)
  refine pr_go rfl (s_aload_n rfl) ?_
  refine pr_go rfl (s_aload_n rfl) ?_
  refine pr_go rfl (s_getf rfl rfl) ?_
  refine pr_go rfl s_sipush ?_
  refine pr_go rfl (s_imulN (c := d * 827) rfl) ?_
  refine pr_go rfl s_sipush ?_
  refine pr_go rfl (s_iaddN (c := (d * 827) + 641) rfl) ?_
  refine pr_go rfl s_sipush ?_
  refine pr_go rfl (s_iremN (c := ((d * 827) + 641) % 30047) (by omega) (by omega) (by omega) rfl) ?_
  refine pr_go rfl (s_putfN rfl (Nat.le_of_ble_eq_true rfl) rfl (w' := cM xs ys hs fx hx hy th hn (nI (((d * 827) + 641) % 30047)) ap ow co en ne rd tn ec li wa qu qn Q) rfl) ?_
  refine pr_go rfl s_iconst ?_
  refine pr_go rfl (s_iload_n rfl) ?_
  refine pr_go rfl (s_imulN (c := 2 * m) rfl) ?_
  refine pr_go rfl s_iconst ?_
  refine pr_go rfl (s_iaddN (c := (2 * m) + 1) rfl) ?_
  refine pr_go rfl (s_istore_n (lv' := [(2, .int (nI ((2 * m) + 1))), (0, .ref 2), (1, .int (nI m))]) rfl) ?_
  refine pr_go rfl (s_iload_n rfl) ?_
  refine pr_go rfl (s_if_le_f (nI_nle (by omega) (by omega))) ?_
  refine pr_go rfl (s_aload_n rfl) ?_
  refine pr_go rfl (s_getf rfl rfl) ?_
  refine pr_go rfl (s_iload_n rfl) ?_
  refine pr_go rfl (s_iremN (c := (((d * 827) + 641) % 30047) % ((2 * m) + 1)) (by omega) (by omega) (by omega) rfl) ?_
  refine pr_go rfl (s_iload_n rfl) ?_
  refine pr_go rfl s_isub ?_
  refine pr_go rfl s_goto ?_
  exact pr_retE (r' := some (.int ((nI ((((d * 827) + 641) % 30047) % ((2 * m) + 1))) - (nI m)))) rfl s_retI rfl
