/-! THE CLASS'S EDGES: laid, stripped, inner ones; where a place lies. Rows laid by program (wip/tools/lay.py, mkc.py, mk75.py). -/
def a3F (ap : Nat → Int32) (a b c : Nat) (u v t : Int32) : Nat → Int32 := upd (upd (upd ap (a * 40 + b) u) (b * 40 + c) v) (c * 40 + a) t
theorem c_lay {xs : Nat → Int32} {ys : Nat → Int32} {hs : Nat → Int32} {fx : Nat → Int64} {hx : Nat → Int32} {hy : Nat → Int32} {th : Int64} {hn : Int32} {g : Int32} {ap : Nat → Int32} {ow : Nat → Int32} {co : Nat → Int32} {en : Nat → Int32} {ne : Nat → Int64} {rd : Nat → Int32} {tn : Int32} {ec : Int32} {li : Nat → Int64} {wa : Nat → Int64} {qu : Nat → Int32} {qn : Int32} {Q : pW} {a b c : Nat} (ha : a < 40) (hb : b < 40) (hc : c < 40) : pRun 19 [.ref 1, .int (nI a), .int (nI b), .int (nI c)] (cM xs ys hs fx hx hy th hn g ap ow co en ne rd tn ec li wa qu qn Q) none (cM xs ys hs fx hx hy th hn g (a3F ap a b c (nI c) (nI a) (nI b)) ow co en ne rd tn ec li wa qu qn Q) := by
  refine pr_run rfl ?_
  refine pr_go rfl (s_aload_n rfl) ?_
  refine pr_go rfl (s_getf rfl rfl) ?_
  refine pr_go rfl (s_iload_n rfl) ?_
  refine pr_go rfl s_bipush ?_
  refine pr_go rfl (s_imulN (c := a * 40) rfl) ?_
  refine pr_go rfl (s_iload_n rfl) ?_
  refine pr_go rfl (s_iaddN (c := (a * 40) + b) rfl) ?_
  refine pr_go rfl (s_iload_n rfl) ?_
  refine pr_go rfl (s_iastN rfl (by omega) (by decide) (w' := cM xs ys hs fx hx hy th hn g (upd ap (((a * 40) + b)) (nI c)) ow co en ne rd tn ec li wa qu qn Q) rfl) ?_
  refine pr_go rfl (s_aload_n rfl) ?_
  refine pr_go rfl (s_getf rfl rfl) ?_
  refine pr_go rfl (s_iload_n rfl) ?_
  refine pr_go rfl s_bipush ?_
  refine pr_go rfl (s_imulN (c := b * 40) rfl) ?_
  refine pr_go rfl (s_iload_n rfl) ?_
  refine pr_go rfl (s_iaddN (c := (b * 40) + c) rfl) ?_
  refine pr_go rfl (s_iload_n rfl) ?_
  refine pr_go rfl (s_iastN rfl (by omega) (by decide) (w' := cM xs ys hs fx hx hy th hn g (upd (upd ap (((a * 40) + b)) (nI c)) (((b * 40) + c)) (nI a)) ow co en ne rd tn ec li wa qu qn Q) rfl) ?_
  refine pr_go rfl (s_aload_n rfl) ?_
  refine pr_go rfl (s_getf rfl rfl) ?_
  refine pr_go rfl (s_iload_n rfl) ?_
  refine pr_go rfl s_bipush ?_
  refine pr_go rfl (s_imulN (c := c * 40) rfl) ?_
  refine pr_go rfl (s_iload_n rfl) ?_
  refine pr_go rfl (s_iaddN (c := (c * 40) + a) rfl) ?_
  refine pr_go rfl (s_iload_n rfl) ?_
  refine pr_go rfl (s_iastN rfl (by omega) (by decide) (w' := cM xs ys hs fx hx hy th hn g (upd (upd (upd ap (((a * 40) + b)) (nI c)) (((b * 40) + c)) (nI a)) (((c * 40) + a)) (nI b)) ow co en ne rd tn ec li wa qu qn Q) rfl) ?_
  exact pr_ret rfl rfl
theorem c_strip {xs : Nat → Int32} {ys : Nat → Int32} {hs : Nat → Int32} {fx : Nat → Int64} {hx : Nat → Int32} {hy : Nat → Int32} {th : Int64} {hn : Int32} {g : Int32} {ap : Nat → Int32} {ow : Nat → Int32} {co : Nat → Int32} {en : Nat → Int32} {ne : Nat → Int64} {rd : Nat → Int32} {tn : Int32} {ec : Int32} {li : Nat → Int64} {wa : Nat → Int64} {qu : Nat → Int32} {qn : Int32} {Q : pW} {a b c : Nat} (ha : a < 40) (hb : b < 40) (hc : c < 40) : pRun 20 [.ref 1, .int (nI a), .int (nI b), .int (nI c)] (cM xs ys hs fx hx hy th hn g ap ow co en ne rd tn ec li wa qu qn Q) none (cM xs ys hs fx hx hy th hn g (a3F ap a b c (nI 4294967295) (nI 4294967295) (nI 4294967295)) ow co en ne rd tn ec li wa qu qn Q) := by
  refine pr_run rfl ?_
  refine pr_go rfl (s_aload_n rfl) ?_
  refine pr_go rfl (s_getf rfl rfl) ?_
  refine pr_go rfl (s_iload_n rfl) ?_
  refine pr_go rfl s_bipush ?_
  refine pr_go rfl (s_imulN (c := a * 40) rfl) ?_
  refine pr_go rfl (s_iload_n rfl) ?_
  refine pr_go rfl (s_iaddN (c := (a * 40) + b) rfl) ?_
  refine pr_go rfl s_iconst ?_
  refine pr_go rfl (s_iastN rfl (by omega) (by decide) (w' := cM xs ys hs fx hx hy th hn g (upd ap (((a * 40) + b)) (nI 4294967295)) ow co en ne rd tn ec li wa qu qn Q) rfl) ?_
  refine pr_go rfl (s_aload_n rfl) ?_
  refine pr_go rfl (s_getf rfl rfl) ?_
  refine pr_go rfl (s_iload_n rfl) ?_
  refine pr_go rfl s_bipush ?_
  refine pr_go rfl (s_imulN (c := b * 40) rfl) ?_
  refine pr_go rfl (s_iload_n rfl) ?_
  refine pr_go rfl (s_iaddN (c := (b * 40) + c) rfl) ?_
  refine pr_go rfl s_iconst ?_
  refine pr_go rfl (s_iastN rfl (by omega) (by decide) (w' := cM xs ys hs fx hx hy th hn g (upd (upd ap (((a * 40) + b)) (nI 4294967295)) (((b * 40) + c)) (nI 4294967295)) ow co en ne rd tn ec li wa qu qn Q) rfl) ?_
  refine pr_go rfl (s_aload_n rfl) ?_
  refine pr_go rfl (s_getf rfl rfl) ?_
  refine pr_go rfl (s_iload_n rfl) ?_
  refine pr_go rfl s_bipush ?_
  refine pr_go rfl (s_imulN (c := c * 40) rfl) ?_
  refine pr_go rfl (s_iload_n rfl) ?_
  refine pr_go rfl (s_iaddN (c := (c * 40) + a) rfl) ?_
  refine pr_go rfl s_iconst ?_
  refine pr_go rfl (s_iastN rfl (by omega) (by decide) (w' := cM xs ys hs fx hx hy th hn g (upd (upd (upd ap (((a * 40) + b)) (nI 4294967295)) (((b * 40) + c)) (nI 4294967295)) (((c * 40) + a)) (nI 4294967295)) ow co en ne rd tn ec li wa qu qn Q) rfl) ?_
  exact pr_ret rfl rfl
def inF (ap : Nat → Int32) (a b : Nat) : Bool := !(decide (ap (a * 40 + b) = nI 4294967295)) && !(decide (ap (b * 40 + a) = nI 4294967295))
theorem c_isInner {xs : Nat → Int32} {ys : Nat → Int32} {hs : Nat → Int32} {fx : Nat → Int64} {hx : Nat → Int32} {hy : Nat → Int32} {th : Int64} {hn : Int32} {g : Int32} {ap : Nat → Int32} {ow : Nat → Int32} {co : Nat → Int32} {en : Nat → Int32} {ne : Nat → Int64} {rd : Nat → Int32} {tn : Int32} {ec : Int32} {li : Nat → Int64} {wa : Nat → Int64} {qu : Nat → Int32} {qn : Int32} {Q : pW} {a b : Nat} (ha : a < 40) (hb : b < 40) : pRun 25 [.ref 1, .int (nI a), .int (nI b)] (cM xs ys hs fx hx hy th hn g ap ow co en ne rd tn ec li wa qu qn Q) (some (.int (bI (inF ap a b)))) (cM xs ys hs fx hx hy th hn g ap ow co en ne rd tn ec li wa qu qn Q) := by
  refine pr_run rfl ?_
  refine pr_go rfl (s_aload_n rfl) ?_
  refine pr_go rfl (s_getf rfl rfl) ?_
  refine pr_go rfl (s_iload_n rfl) ?_
  refine pr_go rfl s_bipush ?_
  refine pr_go rfl (s_imulN (c := a * 40) rfl) ?_
  refine pr_go rfl (s_iload_n rfl) ?_
  refine pr_go rfl (s_iaddN (c := (a * 40) + b) rfl) ?_
  refine pr_go rfl (s_ialdN (v := ap (((a * 40) + b))) rfl (by omega) (by decide) rfl rfl) ?_
  refine pr_go rfl s_iconst ?_
  by_cases h12 : ap (((a * 40) + b)) = nI 4294967295
  · skip
    refine pr_go rfl (s_icmp_eq_t h12) ?_
    refine pr_go rfl s_iconst ?_
    exact pr_retE (r' := some (.int (nI 0))) rfl s_ret0 (by unfold inF bI; simp only [decide_eq_true h12]; rfl)
  · skip
    refine pr_go rfl (s_icmp_eq_f h12) ?_
    refine pr_go rfl (s_aload_n rfl) ?_
    refine pr_go rfl (s_getf rfl rfl) ?_
    refine pr_go rfl (s_iload_n rfl) ?_
    refine pr_go rfl s_bipush ?_
    refine pr_go rfl (s_imulN (c := b * 40) rfl) ?_
    refine pr_go rfl (s_iload_n rfl) ?_
    refine pr_go rfl (s_iaddN (c := (b * 40) + a) rfl) ?_
    refine pr_go rfl (s_ialdN (v := ap (((b * 40) + a))) rfl (by omega) (by decide) rfl rfl) ?_
    refine pr_go rfl s_iconst ?_
    by_cases h27 : ap (((b * 40) + a)) = nI 4294967295
    · skip
      refine pr_go rfl (s_icmp_eq_t h27) ?_
      refine pr_go rfl s_iconst ?_
      exact pr_retE (r' := some (.int (nI 0))) rfl s_ret0 (by unfold inF bI; simp only [decide_eq_false h12, decide_eq_true h27]; rfl)
    · skip
      refine pr_go rfl (s_icmp_eq_f h27) ?_
      refine pr_go rfl s_iconst ?_
      refine pr_go rfl s_goto ?_
      exact pr_retE (r' := some (.int (nI 1))) rfl s_ret1 (by unfold inF bI; simp only [decide_eq_false h12, decide_eq_false h27]; rfl)
theorem c_sideOf {xs : Nat → Int32} {ys : Nat → Int32} {hs : Nat → Int32} {fx : Nat → Int64} {hx : Nat → Int32} {hy : Nat → Int32} {th : Int64} {hn : Int32} {g : Int32} {ap : Nat → Int32} {ow : Nat → Int32} {co : Nat → Int32} {en : Nat → Int32} {ne : Nat → Int64} {rd : Nat → Int32} {tn : Int32} {ec : Int32} {li : Nat → Int64} {wa : Nat → Int64} {qu : Nat → Int32} {qn : Int32} {Q : pW} {t k a b : Nat} {x y : Int32} (ht : t < 74) (hk : k < 3) (hka : co (3 * t + k) = nI a) (hkb : co (3 * t + (k + 1) % 3) = nI b) (ha : a < 40) (hb : b < 40) : pRun 40 [.ref 1, .int (nI t), .int (nI k), .int x, .int y] (cM xs ys hs fx hx hy th hn g ap ow co en ne rd tn ec li wa qu qn Q) (some (.int (sdF xs ys a b x y))) (cM xs ys hs fx hx hy th hn g ap ow co en ne rd tn ec li wa qu qn Q) := by
  refine pr_run rfl ?_
  refine pr_go rfl (s_aload_n rfl) ?_
  refine pr_go rfl (s_getf rfl rfl) ?_
  refine pr_go rfl (s_aload_n rfl) ?_
  refine pr_go rfl (s_iload_n rfl) ?_
  refine pr_go rfl (s_iload_n rfl) ?_
  refine pr_call rfl (s_invV rfl rfl rfl rfl) (by have h := c_cornerOf (xs := xs) (ys := ys) (hs := hs) (fx := fx) (hx := hx) (hy := hy) (th := th) (hn := hn) (g := g) (ap := ap) (ow := ow) (co := co) (en := en) (ne := ne) (rd := rd) (tn := tn) (ec := ec) (li := li) (wa := wa) (qu := qu) (qn := qn) (Q := Q) (t := t) (k := k) ht (by omega); rw [hka] at h; exact h) ?_
  refine pr_go rfl (s_aload_n rfl) ?_
  refine pr_go rfl (s_iload_n rfl) ?_
  refine pr_go rfl (s_iload_n rfl) ?_
  refine pr_go rfl s_iconst ?_
  refine pr_go rfl (s_iaddN (c := k + 1) rfl) ?_
  refine pr_go rfl s_iconst ?_
  refine pr_go rfl (s_iremN (c := (k + 1) % 3) (by omega) (by omega) (by omega) rfl) ?_
  refine pr_call rfl (s_invV rfl rfl rfl rfl) (by have h := c_cornerOf (xs := xs) (ys := ys) (hs := hs) (fx := fx) (hx := hx) (hy := hy) (th := th) (hn := hn) (g := g) (ap := ap) (ow := ow) (co := co) (en := en) (ne := ne) (rd := rd) (tn := tn) (ec := ec) (li := li) (wa := wa) (qu := qu) (qn := qn) (Q := Q) (t := t) (k := (k + 1) % 3) ht (by omega); rw [hkb] at h; exact h) ?_
  refine pr_go rfl (s_iload_n rfl) ?_
  refine pr_go rfl (s_iload rfl) ?_
  refine pr_call rfl (s_invV rfl rfl rfl rfl) (c_side ha hb) ?_
  exact pr_retE (r' := some (.int (sdF xs ys a b x y))) rfl s_retI rfl
def hoF (xs ys : Nat → Int32) (a b c : Nat) (x y : Int32) : Bool := !(decide (sdF xs ys a b x y < 0)) && (!(decide (sdF xs ys b c x y < 0)) && !(decide (sdF xs ys c a x y < 0)))
theorem c_holds {xs : Nat → Int32} {ys : Nat → Int32} {hs : Nat → Int32} {fx : Nat → Int64} {hx : Nat → Int32} {hy : Nat → Int32} {th : Int64} {hn : Int32} {g : Int32} {ap : Nat → Int32} {ow : Nat → Int32} {co : Nat → Int32} {en : Nat → Int32} {ne : Nat → Int64} {rd : Nat → Int32} {tn : Int32} {ec : Int32} {li : Nat → Int64} {wa : Nat → Int64} {qu : Nat → Int32} {qn : Int32} {Q : pW} {t a b c : Nat} {x y : Int32} (ht : t < 74) (hc0 : co (3 * t + 0) = nI a) (hc1 : co (3 * t + 1) = nI b) (hc2 : co (3 * t + 2) = nI c) (ha : a < 40) (hb : b < 40) (hc : c < 40) : pRun 43 [.ref 1, .int (nI t), .int x, .int y] (cM xs ys hs fx hx hy th hn g ap ow co en ne rd tn ec li wa qu qn Q) (some (.int (bI (hoF xs ys a b c x y)))) (cM xs ys hs fx hx hy th hn g ap ow co en ne rd tn ec li wa qu qn Q) := by
  refine pr_run rfl ?_
  refine pr_go rfl (s_aload_n rfl) ?_
  refine pr_go rfl (s_iload_n rfl) ?_
  refine pr_go rfl s_iconst ?_
  refine pr_go rfl (s_iload_n rfl) ?_
  refine pr_go rfl (s_iload_n rfl) ?_
  refine pr_call rfl (s_invV rfl rfl rfl rfl) (c_sideOf (k := 0) ht (by decide) hc0 hc1 ha hb) ?_
  by_cases h8 : sdF xs ys a b x y < 0
  · skip
    refine pr_go rfl (s_if_lt_t h8) ?_
    refine pr_go rfl s_iconst ?_
    exact pr_retE (r' := some (.int (nI 0))) rfl s_ret0 (by unfold hoF bI; simp only [decide_eq_true h8]; rfl)
  · skip
    refine pr_go rfl (s_if_lt_f h8) ?_
    refine pr_go rfl (s_aload_n rfl) ?_
    refine pr_go rfl (s_iload_n rfl) ?_
    refine pr_go rfl s_iconst ?_
    refine pr_go rfl (s_iload_n rfl) ?_
    refine pr_go rfl (s_iload_n rfl) ?_
    refine pr_call rfl (s_invV rfl rfl rfl rfl) (c_sideOf (k := 1) ht (by decide) hc1 hc2 hb hc) ?_
    by_cases h19 : sdF xs ys b c x y < 0
    · skip
      refine pr_go rfl (s_if_lt_t h19) ?_
      refine pr_go rfl s_iconst ?_
      exact pr_retE (r' := some (.int (nI 0))) rfl s_ret0 (by unfold hoF bI; simp only [decide_eq_false h8, decide_eq_true h19]; rfl)
    · skip
      refine pr_go rfl (s_if_lt_f h19) ?_
      refine pr_go rfl (s_aload_n rfl) ?_
      refine pr_go rfl (s_iload_n rfl) ?_
      refine pr_go rfl s_iconst ?_
      refine pr_go rfl (s_iload_n rfl) ?_
      refine pr_go rfl (s_iload_n rfl) ?_
      refine pr_call rfl (s_invV rfl rfl rfl rfl) (c_sideOf (k := 2) ht (by decide) hc2 hc0 hc ha) ?_
      by_cases h30 : sdF xs ys c a x y < 0
      · skip
        refine pr_go rfl (s_if_lt_t h30) ?_
        refine pr_go rfl s_iconst ?_
        exact pr_retE (r' := some (.int (nI 0))) rfl s_ret0 (by unfold hoF bI; simp only [decide_eq_false h8, decide_eq_false h19, decide_eq_true h30]; rfl)
      · skip
        refine pr_go rfl (s_if_lt_f h30) ?_
        refine pr_go rfl s_iconst ?_
        refine pr_go rfl s_goto ?_
        exact pr_retE (r' := some (.int (nI 1))) rfl s_ret1 (by unfold hoF bI; simp only [decide_eq_false h8, decide_eq_false h19, decide_eq_false h30]; rfl)
