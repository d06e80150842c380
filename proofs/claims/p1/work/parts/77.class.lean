/-! THE CLASS LOOKS POINTS UP AND DRAWS PLACES. Rows laid by program (wip/tools/lay.py, mkc.py, mk77.py). -/
def atG (xs ys : Nat → Int32) (th : Int64) (x y : Int32) : Nat → Nat → Nat
  | 0, _ => 4294967295
  | m + 1, k => bif bt th k && (decide (xs k = x) && decide (ys k = y)) then k else atG xs ys th x y m (k + 1)
theorem atG_f {xs ys : Nat → Int32} {th : Int64} {x y : Int32} {m k : Nat} (h : (bt th k && (decide (xs k = x) && decide (ys k = y))) = false) : atG xs ys th x y (m + 1) k = atG xs ys th x y m (k + 1) := by
  show (bif bt th k && (decide (xs k = x) && decide (ys k = y)) then k else atG xs ys th x y m (k + 1)) = _
  rw [h]
  rfl
theorem atG_t {xs ys : Nat → Int32} {th : Int64} {x y : Int32} {m k : Nat} (h : (bt th k && (decide (xs k = x) && decide (ys k = y))) = true) : atG xs ys th x y (m + 1) k = k := by
  show (bif bt th k && (decide (xs k = x) && decide (ys k = y)) then k else atG xs ys th x y m (k + 1)) = _
  rw [h]
  rfl
def luG (th : Int64) : Nat → Nat → Nat
  | 0, _ => 4294967295
  | m + 1, k => bif bt th k then luG th m (k + 1) else k
theorem luG_t {th : Int64} {m k : Nat} (h : bt th k = true) : luG th (m + 1) k = luG th m (k + 1) := by
  show (bif bt th k then luG th m (k + 1) else k) = _
  rw [h]
  rfl
theorem luG_f {th : Int64} {m k : Nat} (h : bt th k = false) : luG th (m + 1) k = k := by
  show (bif bt th k then luG th m (k + 1) else k) = _
  rw [h]
  rfl
theorem l_atPlace {xs : Nat → Int32} {ys : Nat → Int32} {hs : Nat → Int32} {fx : Nat → Int64} {hx : Nat → Int32} {hy : Nat → Int32} {th : Int64} {hn : Int32} {g : Int32} {ap : Nat → Int32} {ow : Nat → Int32} {co : Nat → Int32} {en : Nat → Int32} {ne : Nat → Int64} {rd : Nat → Int32} {tn : Int32} {ec : Int32} {li : Nat → Int64} {wa : Nat → Int64} {qu : Nat → Int32} {qn : Int32} {Q : pW} {x y : Int32} : ∀ (m k : Nat), k + m = 40 → pRest 86 (2, [(3, .int (nI k)), (0, .ref 2), (1, .int x), (2, .int y)], [], cM xs ys hs fx hx hy th hn g ap ow co en ne rd tn ec li wa qu qn Q) (some (.int (nI (atG xs ys th x y m k)))) (cM xs ys hs fx hx hy th hn g ap ow co en ne rd tn ec li wa qu qn Q) := by
  intro m
  induction m with
  | zero =>
    intro k hk
    obtain rfl : k = 40 := by omega
    refine pr_go rfl (s_iload_n rfl) ?_
    refine pr_go rfl s_bipush ?_
    refine pr_go rfl (s_icmp_ge_t ((nI_leI (by omega) (by omega)).mpr (by omega))) ?_
    refine pr_go rfl s_iconst ?_
    exact pr_retE (r' := some (.int (nI 4294967295))) rfl s_retI rfl
  | succ m ih =>
    intro k hk
    cases hI : bt th k with
    | false =>
      rw [atG_f (by rw [hI]; rfl)]
      refine pr_go rfl (s_iload_n rfl) ?_
      refine pr_go rfl s_bipush ?_
      refine pr_go rfl (s_icmp_ge_f (fun e => absurd ((nI_leI (by omega) (by omega)).mp e) (by omega))) ?_
      refine pr_go rfl (s_aload_n rfl) ?_
      refine pr_go rfl (s_iload_n rfl) ?_
      refine pr_call rfl (s_invV rfl rfl rfl rfl) (c_has (a := k) (by omega)) ?_
      refine pr_go rfl (s_if_eq_t (by rw [hI]; rfl)) ?_
      refine pr_go rfl (s_iincN (y := nI (k + 1)) rfl (nI_add _ _) (lv' := [(3, .int (nI (k + 1))), (0, .ref 2), (1, .int x), (2, .int y)]) rfl) ?_
      refine pr_go rfl s_goto ?_
      exact ih (k + 1) (by omega)
    | true =>
      by_cases hX : xs k = x
      · by_cases hY : ys k = y
        · rw [atG_t (by rw [hI, decide_eq_true hX, decide_eq_true hY]; rfl)]
          refine pr_go rfl (s_iload_n rfl) ?_
          refine pr_go rfl s_bipush ?_
          refine pr_go rfl (s_icmp_ge_f (fun e => absurd ((nI_leI (by omega) (by omega)).mp e) (by omega))) ?_
          refine pr_go rfl (s_aload_n rfl) ?_
          refine pr_go rfl (s_iload_n rfl) ?_
          refine pr_call rfl (s_invV rfl rfl rfl rfl) (c_has (a := k) (by omega)) ?_
          refine pr_go rfl (s_if_eq_f (by rw [hI]; decide)) ?_
          refine pr_go rfl (s_aload_n rfl) ?_
          refine pr_go rfl (s_getf rfl rfl) ?_
          refine pr_go rfl (s_iload_n rfl) ?_
          refine pr_go rfl (s_ialdN (v := xs (k)) rfl (by omega) (by decide) rfl rfl) ?_
          refine pr_go rfl (s_iload_n rfl) ?_
          refine pr_go rfl (s_icmp_ne_f (fun e => e hX)) ?_
          refine pr_go rfl (s_aload_n rfl) ?_
          refine pr_go rfl (s_getf rfl rfl) ?_
          refine pr_go rfl (s_iload_n rfl) ?_
          refine pr_go rfl (s_ialdN (v := ys (k)) rfl (by omega) (by decide) rfl rfl) ?_
          refine pr_go rfl (s_iload_n rfl) ?_
          refine pr_go rfl (s_icmp_ne_f (fun e => e hY)) ?_
          refine pr_go rfl (s_iload_n rfl) ?_
          exact pr_retE (r' := some (.int (nI k))) rfl s_retI rfl
        · rw [atG_f (by rw [hI, decide_eq_true hX, decide_eq_false hY]; rfl)]
          refine pr_go rfl (s_iload_n rfl) ?_
          refine pr_go rfl s_bipush ?_
          refine pr_go rfl (s_icmp_ge_f (fun e => absurd ((nI_leI (by omega) (by omega)).mp e) (by omega))) ?_
          refine pr_go rfl (s_aload_n rfl) ?_
          refine pr_go rfl (s_iload_n rfl) ?_
          refine pr_call rfl (s_invV rfl rfl rfl rfl) (c_has (a := k) (by omega)) ?_
          refine pr_go rfl (s_if_eq_f (by rw [hI]; decide)) ?_
          refine pr_go rfl (s_aload_n rfl) ?_
          refine pr_go rfl (s_getf rfl rfl) ?_
          refine pr_go rfl (s_iload_n rfl) ?_
          refine pr_go rfl (s_ialdN (v := xs (k)) rfl (by omega) (by decide) rfl rfl) ?_
          refine pr_go rfl (s_iload_n rfl) ?_
          refine pr_go rfl (s_icmp_ne_f (fun e => e hX)) ?_
          refine pr_go rfl (s_aload_n rfl) ?_
          refine pr_go rfl (s_getf rfl rfl) ?_
          refine pr_go rfl (s_iload_n rfl) ?_
          refine pr_go rfl (s_ialdN (v := ys (k)) rfl (by omega) (by decide) rfl rfl) ?_
          refine pr_go rfl (s_iload_n rfl) ?_
          refine pr_go rfl (s_icmp_ne_t hY) ?_
          refine pr_go rfl (s_iincN (y := nI (k + 1)) rfl (nI_add _ _) (lv' := [(3, .int (nI (k + 1))), (0, .ref 2), (1, .int x), (2, .int y)]) rfl) ?_
          refine pr_go rfl s_goto ?_
          exact ih (k + 1) (by omega)
      · rw [atG_f (by rw [hI, decide_eq_false hX]; rfl)]
        refine pr_go rfl (s_iload_n rfl) ?_
        refine pr_go rfl s_bipush ?_
        refine pr_go rfl (s_icmp_ge_f (fun e => absurd ((nI_leI (by omega) (by omega)).mp e) (by omega))) ?_
        refine pr_go rfl (s_aload_n rfl) ?_
        refine pr_go rfl (s_iload_n rfl) ?_
        refine pr_call rfl (s_invV rfl rfl rfl rfl) (c_has (a := k) (by omega)) ?_
        refine pr_go rfl (s_if_eq_f (by rw [hI]; decide)) ?_
        refine pr_go rfl (s_aload_n rfl) ?_
        refine pr_go rfl (s_getf rfl rfl) ?_
        refine pr_go rfl (s_iload_n rfl) ?_
        refine pr_go rfl (s_ialdN (v := xs (k)) rfl (by omega) (by decide) rfl rfl) ?_
        refine pr_go rfl (s_iload_n rfl) ?_
        refine pr_go rfl (s_icmp_ne_t hX) ?_
        refine pr_go rfl (s_iincN (y := nI (k + 1)) rfl (nI_add _ _) (lv' := [(3, .int (nI (k + 1))), (0, .ref 2), (1, .int x), (2, .int y)]) rfl) ?_
        refine pr_go rfl s_goto ?_
        exact ih (k + 1) (by omega)
theorem c_atPlace {xs : Nat → Int32} {ys : Nat → Int32} {hs : Nat → Int32} {fx : Nat → Int64} {hx : Nat → Int32} {hy : Nat → Int32} {th : Int64} {hn : Int32} {g : Int32} {ap : Nat → Int32} {ow : Nat → Int32} {co : Nat → Int32} {en : Nat → Int32} {ne : Nat → Int64} {rd : Nat → Int32} {tn : Int32} {ec : Int32} {li : Nat → Int64} {wa : Nat → Int64} {qu : Nat → Int32} {qn : Int32} {Q : pW} {x y : Int32} : pRun 86 [.ref 2, .int x, .int y] (cM xs ys hs fx hx hy th hn g ap ow co en ne rd tn ec li wa qu qn Q) (some (.int (nI (atG xs ys th x y 40 0)))) (cM xs ys hs fx hx hy th hn g ap ow co en ne rd tn ec li wa qu qn Q) := by
  refine pr_run rfl ?_
  refine pr_go rfl s_iconst ?_
  refine pr_go rfl (s_istore_n (lv' := [(3, .int (nI 0)), (0, .ref 2), (1, .int x), (2, .int y)]) rfl) ?_
  exact l_atPlace 40 0 rfl
theorem l_least {xs : Nat → Int32} {ys : Nat → Int32} {hs : Nat → Int32} {fx : Nat → Int64} {hx : Nat → Int32} {hy : Nat → Int32} {th : Int64} {hn : Int32} {g : Int32} {ap : Nat → Int32} {ow : Nat → Int32} {co : Nat → Int32} {en : Nat → Int32} {ne : Nat → Int64} {rd : Nat → Int32} {tn : Int32} {ec : Int32} {li : Nat → Int64} {wa : Nat → Int64} {qu : Nat → Int32} {qn : Int32} {Q : pW} : ∀ (m k : Nat), k + m = 40 → pRest 87 (2, [(1, .int (nI k)), (0, .ref 2)], [], cM xs ys hs fx hx hy th hn g ap ow co en ne rd tn ec li wa qu qn Q) (some (.int (nI (luG th m k)))) (cM xs ys hs fx hx hy th hn g ap ow co en ne rd tn ec li wa qu qn Q) := by
  intro m
  induction m with
  | zero =>
    intro k hk
    obtain rfl : k = 40 := by omega
    refine pr_go rfl (s_iload_n rfl) ?_
    refine pr_go rfl s_bipush ?_
    refine pr_go rfl (s_icmp_ge_t ((nI_leI (by omega) (by omega)).mpr (by omega))) ?_
    refine pr_go rfl s_iconst ?_
    exact pr_retE (r' := some (.int (nI 4294967295))) rfl s_retI rfl
  | succ m ih =>
    intro k hk
    cases hI : bt th k with
    | false =>
      rw [luG_f hI]
      refine pr_go rfl (s_iload_n rfl) ?_
      refine pr_go rfl s_bipush ?_
      refine pr_go rfl (s_icmp_ge_f (fun e => absurd ((nI_leI (by omega) (by omega)).mp e) (by omega))) ?_
      refine pr_go rfl (s_aload_n rfl) ?_
      refine pr_go rfl (s_iload_n rfl) ?_
      refine pr_call rfl (s_invV rfl rfl rfl rfl) (c_has (a := k) (by omega)) ?_
      refine pr_go rfl (s_if_ne_f (fun e => e (by rw [hI]; rfl))) ?_
      refine pr_go rfl (s_iload_n rfl) ?_
      exact pr_retE (r' := some (.int (nI k))) rfl s_retI rfl
    | true =>
      rw [luG_t hI]
      refine pr_go rfl (s_iload_n rfl) ?_
      refine pr_go rfl s_bipush ?_
      refine pr_go rfl (s_icmp_ge_f (fun e => absurd ((nI_leI (by omega) (by omega)).mp e) (by omega))) ?_
      refine pr_go rfl (s_aload_n rfl) ?_
      refine pr_go rfl (s_iload_n rfl) ?_
      refine pr_call rfl (s_invV rfl rfl rfl rfl) (c_has (a := k) (by omega)) ?_
      refine pr_go rfl (s_if_ne_t (by rw [hI]; decide)) ?_
      refine pr_go rfl (s_iincN (y := nI (k + 1)) rfl (nI_add _ _) (lv' := [(1, .int (nI (k + 1))), (0, .ref 2)]) rfl) ?_
      refine pr_go rfl s_goto ?_
      exact ih (k + 1) (by omega)
theorem c_least {xs : Nat → Int32} {ys : Nat → Int32} {hs : Nat → Int32} {fx : Nat → Int64} {hx : Nat → Int32} {hy : Nat → Int32} {th : Int64} {hn : Int32} {g : Int32} {ap : Nat → Int32} {ow : Nat → Int32} {co : Nat → Int32} {en : Nat → Int32} {ne : Nat → Int64} {rd : Nat → Int32} {tn : Int32} {ec : Int32} {li : Nat → Int64} {wa : Nat → Int64} {qu : Nat → Int32} {qn : Int32} {Q : pW}  : pRun 87 [.ref 2] (cM xs ys hs fx hx hy th hn g ap ow co en ne rd tn ec li wa qu qn Q) (some (.int (nI (luG th 36 4)))) (cM xs ys hs fx hx hy th hn g ap ow co en ne rd tn ec li wa qu qn Q) := by
  refine pr_run rfl ?_
  refine pr_go rfl s_iconst ?_
  refine pr_go rfl (s_istore_n (lv' := [(1, .int (nI 4)), (0, .ref 2)]) rfl) ?_
  exact l_least 36 4 rfl
