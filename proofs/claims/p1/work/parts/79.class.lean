/-! THE CLASS TAKES A PLACE. Rows laid by program (wip/tools/lay.py, mkc.py, mk79.py). -/
theorem atG_le {xs ys : Nat → Int32} {th : Int64} {x y : Int32} : ∀ {m k : Nat}, k + m = 40 → atG xs ys th x y m k < 40 ∨ atG xs ys th x y m k = 4294967295 := by
  intro m
  induction m with
  | zero => intro k _; exact .inr rfl
  | succ m ih =>
    intro k hk
    cases h : (bt th k && (decide (xs k = x) && decide (ys k = y))) with
    | true =>
      rw [atG_t h]
      exact .inl (by omega)
    | false =>
      rw [atG_f h]
      exact ih (by omega)
theorem luG_le {th : Int64} : ∀ {m k : Nat}, k + m = 40 → luG th m k < 40 ∨ luG th m k = 4294967295 := by
  intro m
  induction m with
  | zero => intro k _; exact .inr rfl
  | succ m ih =>
    intro k hk
    cases h : bt th k with
    | true =>
      rw [luG_t h]
      exact ih (by omega)
    | false =>
      rw [luG_f h]
      exact .inl (by omega)
def tkB (xs ys : Nat → Int32) (th : Int64) (x y : Int32) : Bool := sqB x y && (decide (nI (atG xs ys th x y 40 0) = nI 4294967295) && !(decide (nI (luG th 36 4) = nI 4294967295)))
theorem c_takes {xs : Nat → Int32} {ys : Nat → Int32} {hs : Nat → Int32} {fx : Nat → Int64} {hx : Nat → Int32} {hy : Nat → Int32} {th : Int64} {hn : Int32} {g : Int32} {ap : Nat → Int32} {ow : Nat → Int32} {co : Nat → Int32} {en : Nat → Int32} {ne : Nat → Int64} {rd : Nat → Int32} {tn : Int32} {ec : Int32} {li : Nat → Int64} {wa : Nat → Int64} {qu : Nat → Int32} {qn : Int32} {Q : pW} {x y : Int32} : pRun 88 [.ref 2, .int x, .int y] (cM xs ys hs fx hx hy th hn g ap ow co en ne rd tn ec li wa qu qn Q) (some (.int (bI (tkB xs ys th x y)))) (cM xs ys hs fx hx hy th hn g ap ow co en ne rd tn ec li wa qu qn Q) := by
  refine pr_run rfl ?_
  refine pr_go rfl (s_iload_n rfl) ?_
  refine pr_go rfl (s_iload_n rfl) ?_
  refine pr_call rfl (s_invN rfl rfl rfl) (c_inSquare) ?_
  cases hq : sqB x y
  · skip
    refine pr_go rfl (s_if_eq_t (by decide)) ?_
    refine pr_go rfl s_iconst ?_
    exact pr_retE (r' := some (.int (nI 0))) rfl s_ret0 (by unfold tkB bI; simp only [hq]; rfl)
  · skip
    refine pr_go rfl (s_if_eq_f (by decide)) ?_
    refine pr_go rfl (s_aload_n rfl) ?_
    refine pr_go rfl (s_iload_n rfl) ?_
    refine pr_go rfl (s_iload_n rfl) ?_
    refine pr_call rfl (s_invV rfl rfl rfl rfl) (c_atPlace) ?_
    refine pr_go rfl s_iconst ?_
    by_cases ha : nI (atG xs ys th x y 40 0) = nI 4294967295
    · skip
      refine pr_go rfl (s_icmp_ne_f (fun e => e ha)) ?_
      refine pr_go rfl (s_aload_n rfl) ?_
      refine pr_call rfl (s_invV rfl rfl rfl rfl) (c_least) ?_
      refine pr_go rfl s_iconst ?_
      by_cases hl : nI (luG th 36 4) = nI 4294967295
      · skip
        refine pr_go rfl (s_icmp_eq_t hl) ?_
        refine pr_go rfl s_iconst ?_
        exact pr_retE (r' := some (.int (nI 0))) rfl s_ret0 (by unfold tkB bI; simp only [hq, decide_eq_true ha, decide_eq_true hl]; rfl)
      · skip
        refine pr_go rfl (s_icmp_eq_f hl) ?_
        refine pr_go rfl s_iconst ?_
        refine pr_go rfl s_goto ?_
        exact pr_retE (r' := some (.int (nI 1))) rfl s_ret1 (by unfold tkB bI; simp only [hq, decide_eq_true ha, decide_eq_false hl]; rfl)
    · skip
      refine pr_go rfl (s_icmp_ne_t ha) ?_
      refine pr_go rfl s_iconst ?_
      exact pr_retE (r' := some (.int (nI 0))) rfl s_ret0 (by unfold tkB bI; simp only [hq, decide_eq_false ha]; rfl)
