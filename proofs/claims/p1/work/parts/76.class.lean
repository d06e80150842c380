/-! THE CLASS'S BITS: which points are there, which edges are fixed. Rows laid by program (wip/tools/lay.py, mkc.py, mk76.py). -/
theorem s_laldN {pc a n k : Nat} {lv : pLv} {st : List Value} {w : pW} {f : Nat → Int64} {v : Int64} (hw : w[a]? = some (.inl (1, n, .inr (.inl f)))) (hk : k < n) (hn : n < 2 ^ 31) (hv : f k = v) : pS1 .laload pc [] lv (.int (nI k) :: .ref a :: st) w = some (.inl (pc + 1, lv, .long v :: st, w)) := by
  subst hv
  have h := s_lald (pc := pc) (lv := lv) (st := st) hw (pInB_nI hk hn)
  rw [nI_clamp (by omega)] at h
  exact h
theorem s_lastN {pc a n k : Nat} {lv : pLv} {st : List Value} {w w' : pW} {f : Nat → Int64} {y : Int64} (hw : w[a]? = some (.inl (1, n, .inr (.inl f)))) (hk : k < n) (hn : n < 2 ^ 31) (hs : w.set a (.inl (1, n, .inr (.inl (vp_updL f k y)))) = w') : pS1 .lastore pc [] lv (.long y :: .int (nI k) :: .ref a :: st) w = some (.inl (pc + 1, lv, st, w')) := by
  subst hs
  have h := s_last (pc := pc) (lv := lv) (st := st) (y := y) hw (pInB_nI hk hn)
  rw [nI_clamp (by omega)] at h
  exact h
theorem s_land {pc : Nat} {lv : pLv} {st : List Value} {w : pW} {x y : Int64} : pS1 .land pc [] lv (.long y :: .long x :: st) w = some (.inl (pc + 1, lv, .long (x &&& y) :: st, w)) := rfl
theorem s_lor {pc : Nat} {lv : pLv} {st : List Value} {w : pW} {x y : Int64} : pS1 .lor pc [] lv (.long y :: .long x :: st) w = some (.inl (pc + 1, lv, .long (x ||| y) :: st, w)) := rfl
theorem s_lxor {pc : Nat} {lv : pLv} {st : List Value} {w : pW} {x y : Int64} : pS1 .lxor pc [] lv (.long y :: .long x :: st) w = some (.inl (pc + 1, lv, .long (x ^^^ y) :: st, w)) := rfl
theorem s_lushr {pc : Nat} {lv : pLv} {st : List Value} {w : pW} {x : Int64} {y : Int32} : pS1 .lushr pc [] lv (.int y :: .long x :: st) w = some (.inl (pc + 1, lv, .long ((x.toUInt64 >>> (y.toInt64.toUInt64 &&& Int64.toUInt64 63)).toInt64) :: st, w)) := rfl
theorem s_lshl {pc : Nat} {lv : pLv} {st : List Value} {w : pW} {x : Int64} {y : Int32} : pS1 .lshl pc [] lv (.int y :: .long x :: st) w = some (.inl (pc + 1, lv, .long (x <<< (y.toInt64 &&& 63)) :: st, w)) := rfl
theorem s_lconst1 {pc : Nat} {lv : pLv} {st : List Value} {w : pW} : pS1 (.lconst 1) pc [] lv st w = some (.inl (pc + 1, lv, .long 1 :: st, w)) := rfl
theorem lg0 {x : Int64} : lg_cmp x 0 = 0 ↔ x = 0 := by
  unfold lg_cmp
  by_cases h : x > 0
  · rw [if_pos h]
    constructor
    · intro e
      exact absurd e (by decide)
    · intro e
      rw [e] at h
      exact absurd h (by decide)
  · rw [if_neg h]
    by_cases h2 : x = 0
    · rw [if_pos h2]
      exact ⟨fun _ => h2, fun _ => rfl⟩
    · rw [if_neg h2]
      exact ⟨fun e => absurd e (by decide), fun e => absurd e h2⟩
theorem bt_cmp {x : Int64} {k : Nat} (hk : k < 64) : lg_cmp ((x.toUInt64 >>> ((nI k).toInt64.toUInt64 &&& Int64.toUInt64 63)).toInt64 &&& 1) 0 = 0 ↔ bt x k = false := lg0.trans (bt_ushr hk)
theorem c_has {xs : Nat → Int32} {ys : Nat → Int32} {hs : Nat → Int32} {fx : Nat → Int64} {hx : Nat → Int32} {hy : Nat → Int32} {th : Int64} {hn : Int32} {g : Int32} {ap : Nat → Int32} {ow : Nat → Int32} {co : Nat → Int32} {en : Nat → Int32} {ne : Nat → Int64} {rd : Nat → Int32} {tn : Int32} {ec : Int32} {li : Nat → Int64} {wa : Nat → Int64} {qu : Nat → Int32} {qn : Int32} {Q : pW} {a : Nat} (ha : a < 40) : pRun 82 [.ref 2, .int (nI a)] (cM xs ys hs fx hx hy th hn g ap ow co en ne rd tn ec li wa qu qn Q) (some (.int (bI (bt th a)))) (cM xs ys hs fx hx hy th hn g ap ow co en ne rd tn ec li wa qu qn Q) := by
  refine pr_run rfl ?_
  cases hh : bt th a with
  | false =>
    refine pr_go rfl (s_iload_n rfl) ?_
    refine pr_go rfl (s_if_lt_f (nI_pos (by omega))) ?_
    refine pr_go rfl (s_iload_n rfl) ?_
    refine pr_go rfl s_bipush ?_
    refine pr_go rfl (s_icmp_ge_f (fun e => absurd ((nI_leI (by omega) (by omega)).mp e) (by omega))) ?_
    refine pr_go rfl (s_aload_n rfl) ?_
    refine pr_go rfl (s_getf rfl rfl) ?_
    refine pr_go rfl (s_iload_n rfl) ?_
    refine pr_go rfl s_lushr ?_
    refine pr_go rfl s_lconst1 ?_
    refine pr_go rfl s_land ?_
    refine pr_go rfl s_lconst0 ?_
    refine pr_go rfl s_lcmp ?_
    refine pr_go rfl (s_if_eq_t ((bt_cmp (by omega)).mpr hh)) ?_
    refine pr_go rfl s_iconst ?_
    exact pr_retE (r' := some (.int (nI 0))) rfl s_ret0 (rfl)
  | true =>
    refine pr_go rfl (s_iload_n rfl) ?_
    refine pr_go rfl (s_if_lt_f (nI_pos (by omega))) ?_
    refine pr_go rfl (s_iload_n rfl) ?_
    refine pr_go rfl s_bipush ?_
    refine pr_go rfl (s_icmp_ge_f (fun e => absurd ((nI_leI (by omega) (by omega)).mp e) (by omega))) ?_
    refine pr_go rfl (s_aload_n rfl) ?_
    refine pr_go rfl (s_getf rfl rfl) ?_
    refine pr_go rfl (s_iload_n rfl) ?_
    refine pr_go rfl s_lushr ?_
    refine pr_go rfl s_lconst1 ?_
    refine pr_go rfl s_land ?_
    refine pr_go rfl s_lconst0 ?_
    refine pr_go rfl s_lcmp ?_
    refine pr_go rfl (s_if_eq_f (fun e => by rw [(bt_cmp (by omega)).mp e] at hh; cases hh)) ?_
    refine pr_go rfl s_iconst ?_
    refine pr_go rfl s_goto ?_
    exact pr_retE (r' := some (.int (nI 1))) rfl s_ret1 (rfl)
theorem c_isBound {xs : Nat → Int32} {ys : Nat → Int32} {hs : Nat → Int32} {fx : Nat → Int64} {hx : Nat → Int32} {hy : Nat → Int32} {th : Int64} {hn : Int32} {g : Int32} {ap : Nat → Int32} {ow : Nat → Int32} {co : Nat → Int32} {en : Nat → Int32} {ne : Nat → Int64} {rd : Nat → Int32} {tn : Int32} {ec : Int32} {li : Nat → Int64} {wa : Nat → Int64} {qu : Nat → Int32} {qn : Int32} {Q : pW} {a b : Nat} (ha : a < 40) (hb : b < 40) : pRun 91 [.ref 2, .int (nI a), .int (nI b)] (cM xs ys hs fx hx hy th hn g ap ow co en ne rd tn ec li wa qu qn Q) (some (.int (bI (bt (fx a) b)))) (cM xs ys hs fx hx hy th hn g ap ow co en ne rd tn ec li wa qu qn Q) := by
  refine pr_run rfl ?_
  cases hh : bt (fx a) b with
  | false =>
    refine pr_go rfl (s_aload_n rfl) ?_
    refine pr_go rfl (s_getf rfl rfl) ?_
    refine pr_go rfl (s_iload_n rfl) ?_
    refine pr_go rfl (s_laldN (v := fx (a)) rfl (by omega) (by decide) rfl) ?_
    refine pr_go rfl (s_iload_n rfl) ?_
    refine pr_go rfl s_lushr ?_
    refine pr_go rfl s_lconst1 ?_
    refine pr_go rfl s_land ?_
    refine pr_go rfl s_lconst0 ?_
    refine pr_go rfl s_lcmp ?_
    refine pr_go rfl (s_if_eq_t ((bt_cmp (by omega)).mpr hh)) ?_
    refine pr_go rfl s_iconst ?_
    exact pr_retE (r' := some (.int (nI 0))) rfl s_ret0 (rfl)
  | true =>
    refine pr_go rfl (s_aload_n rfl) ?_
    refine pr_go rfl (s_getf rfl rfl) ?_
    refine pr_go rfl (s_iload_n rfl) ?_
    refine pr_go rfl (s_laldN (v := fx (a)) rfl (by omega) (by decide) rfl) ?_
    refine pr_go rfl (s_iload_n rfl) ?_
    refine pr_go rfl s_lushr ?_
    refine pr_go rfl s_lconst1 ?_
    refine pr_go rfl s_land ?_
    refine pr_go rfl s_lconst0 ?_
    refine pr_go rfl s_lcmp ?_
    refine pr_go rfl (s_if_eq_f (fun e => by rw [(bt_cmp (by omega)).mp e] at hh; cases hh)) ?_
    refine pr_go rfl s_iconst ?_
    refine pr_go rfl s_goto ?_
    exact pr_retE (r' := some (.int (nI 1))) rfl s_ret1 (rfl)
