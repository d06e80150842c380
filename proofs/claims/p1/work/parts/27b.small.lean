theorem r_xOf {w : pW} {o c n : Nat} {f : Nat → Int32} {fs : List Value} (ho : w[o]? = some (.inr (9, .ref c :: fs))) (hc : w[c]? = some (.inl (0, n, .inl f))) (hn : 1780 ≤ n) (hn2 : n < 2 ^ 31) {k : Nat} (hk : k < 40) : pRun 192 [.ref o, .int (nI k)] w (some (.int (xF f k))) w := by
  refine pr_run rfl ?_
  refine pr_blk 1 (q' := (1, [(0, .ref o), (1, .int (nI k))], [.ref o], w)) (by with_unfolding_all rfl) ?_
  refine pr_go rfl (s_getf ho rfl) ?_
  refine pr_blk 7 (q' := (11, [(0, .ref o), (1, .int (nI k))], [.int (((nI 3) + ((nI 4) * (nI k))) + (nI 1)), .ref c], w)) (by with_unfolding_all rfl) ?_
  rw [show (((nI 3) + ((nI 4) * (nI k))) + (nI 1) : Int32) = nI (((3) + ((4) * (k))) + (1)) from by simp only [nI_mul, nI_add]]
  refine pr_go rfl (s_iald hc (pInB_nI (by omega) (by omega))) ?_
  rw [nI_clamp (by omega)]
  exact pr_retE (r' := some (.int (f ((((3) + ((4) * (k))) + (1)))))) rfl s_retI (by unfold xF; exact i_eq (by omega))
theorem r_yOf {w : pW} {o c n : Nat} {f : Nat → Int32} {fs : List Value} (ho : w[o]? = some (.inr (9, .ref c :: fs))) (hc : w[c]? = some (.inl (0, n, .inl f))) (hn : 1780 ≤ n) (hn2 : n < 2 ^ 31) {k : Nat} (hk : k < 40) : pRun 193 [.ref o, .int (nI k)] w (some (.int (yF f k))) w := by
  refine pr_run rfl ?_
  refine pr_blk 1 (q' := (1, [(0, .ref o), (1, .int (nI k))], [.ref o], w)) (by with_unfolding_all rfl) ?_
  refine pr_go rfl (s_getf ho rfl) ?_
  refine pr_blk 7 (q' := (11, [(0, .ref o), (1, .int (nI k))], [.int (((nI 3) + ((nI 4) * (nI k))) + (nI 2)), .ref c], w)) (by with_unfolding_all rfl) ?_
  rw [show (((nI 3) + ((nI 4) * (nI k))) + (nI 2) : Int32) = nI (((3) + ((4) * (k))) + (2)) from by simp only [nI_mul, nI_add]]
  refine pr_go rfl (s_iald hc (pInB_nI (by omega) (by omega))) ?_
  rw [nI_clamp (by omega)]
  exact pr_retE (r' := some (.int (f ((((3) + ((4) * (k))) + (2)))))) rfl s_retI (by unfold yF; exact i_eq (by omega))
theorem r_highOf {w : pW} {o c n : Nat} {f : Nat → Int32} {fs : List Value} (ho : w[o]? = some (.inr (9, .ref c :: fs))) (hc : w[c]? = some (.inl (0, n, .inl f))) (hn : 1780 ≤ n) (hn2 : n < 2 ^ 31) {k : Nat} (hk : k < 40) : pRun 194 [.ref o, .int (nI k)] w (some (.int (hF f k))) w := by
  refine pr_run rfl ?_
  refine pr_blk 1 (q' := (1, [(0, .ref o), (1, .int (nI k))], [.ref o], w)) (by with_unfolding_all rfl) ?_
  refine pr_go rfl (s_getf ho rfl) ?_
  refine pr_blk 7 (q' := (11, [(0, .ref o), (1, .int (nI k))], [.int (((nI 3) + ((nI 4) * (nI k))) + (nI 3)), .ref c], w)) (by with_unfolding_all rfl) ?_
  rw [show (((nI 3) + ((nI 4) * (nI k))) + (nI 3) : Int32) = nI (((3) + ((4) * (k))) + (3)) from by simp only [nI_mul, nI_add]]
  refine pr_go rfl (s_iald hc (pInB_nI (by omega) (by omega))) ?_
  rw [nI_clamp (by omega)]
  exact pr_retE (r' := some (.int (f ((((3) + ((4) * (k))) + (3)))))) rfl s_retI (by unfold hF; exact i_eq (by omega))
theorem r_fixedAt {w : pW} {o c n : Nat} {f : Nat → Int32} {fs : List Value} (ho : w[o]? = some (.inr (9, .ref c :: fs))) (hc : w[c]? = some (.inl (0, n, .inl f))) (hn : 1780 ≤ n) (hn2 : n < 2 ^ 31) {p q : Nat} (hp : p < 40) (hq : q < 40) : pRun 196 [.ref o, .int (nI p), .int (nI q)] w (some (.int (fxF f p q))) w := by
  refine pr_run rfl ?_
  refine pr_blk 1 (q' := (1, [(0, .ref o), (1, .int (nI p)), (2, .int (nI q))], [.ref o], w)) (by with_unfolding_all rfl) ?_
  refine pr_go rfl (s_getf ho rfl) ?_
  refine pr_blk 7 (q' := (14, [(0, .ref o), (1, .int (nI p)), (2, .int (nI q))], [.int (((nI 163) + ((nI 40) * (nI p))) + (nI q)), .ref c], w)) (by with_unfolding_all rfl) ?_
  rw [show (((nI 163) + ((nI 40) * (nI p))) + (nI q) : Int32) = nI (((163) + ((40) * (p))) + (q)) from by simp only [nI_mul, nI_add]]
  refine pr_go rfl (s_iald hc (pInB_nI (by omega) (by omega))) ?_
  rw [nI_clamp (by omega)]
  exact pr_retE (r' := some (.int (f ((((163) + ((40) * (p))) + (q)))))) rfl s_retI (by unfold fxF; exact i_eq (by omega))
theorem r_sideOf {w : pW} {o c n : Nat} {f : Nat → Int32} {fs : List Value} (ho : w[o]? = some (.inr (9, .ref c :: fs))) (hc : w[c]? = some (.inl (0, n, .inl f))) (hn : 1780 ≤ n) (hn2 : n < 2 ^ 31) {p q : Nat} (hp : p < 40) (hq : q < 40) {x y : Int32} : pRun 201 [.ref o, .int (nI p), .int (nI q), .int x, .int y] w (some (.int (sideF f p q x y))) w := by
  refine pr_run rfl ?_
  refine pr_blk 2 (q' := (2, [(0, .ref o), (1, .int (nI p)), (2, .int (nI q)), (3, .int x), (4, .int y)], [.int (nI q), .ref o], w)) (by with_unfolding_all rfl) ?_
  refine pr_call rfl (s_invV rfl ho rfl rfl) (r_xOf ho hc hn hn2 (k := q) (by omega)) ?_
  refine pr_blk 2 (q' := (7, [(0, .ref o), (1, .int (nI p)), (2, .int (nI q)), (3, .int x), (4, .int y)], [.int (nI p), .ref o, .int (xF f q)], w)) (by with_unfolding_all rfl) ?_
  refine pr_call rfl (s_invV rfl ho rfl rfl) (r_xOf ho hc hn hn2 (k := p) (by omega)) ?_
  refine pr_blk 4 (q' := (15, [(0, .ref o), (1, .int (nI p)), (2, .int (nI q)), (3, .int x), (4, .int y)], [.int (nI p), .ref o, .int y, .int ((xF f q) - (xF f p))], w)) (by with_unfolding_all rfl) ?_
  refine pr_call rfl (s_invV rfl ho rfl rfl) (r_yOf ho hc hn hn2 (k := p) (by omega)) ?_
  refine pr_blk 4 (q' := (22, [(0, .ref o), (1, .int (nI p)), (2, .int (nI q)), (3, .int x), (4, .int y)], [.int (nI q), .ref o, .int (((xF f q) - (xF f p)) * ((y) - (yF f p)))], w)) (by with_unfolding_all rfl) ?_
  refine pr_call rfl (s_invV rfl ho rfl rfl) (r_yOf ho hc hn hn2 (k := q) (by omega)) ?_
  refine pr_blk 2 (q' := (27, [(0, .ref o), (1, .int (nI p)), (2, .int (nI q)), (3, .int x), (4, .int y)], [.int (nI p), .ref o, .int (yF f q), .int (((xF f q) - (xF f p)) * ((y) - (yF f p)))], w)) (by with_unfolding_all rfl) ?_
  refine pr_call rfl (s_invV rfl ho rfl rfl) (r_yOf ho hc hn hn2 (k := p) (by omega)) ?_
  refine pr_blk 4 (q' := (34, [(0, .ref o), (1, .int (nI p)), (2, .int (nI q)), (3, .int x), (4, .int y)], [.int (nI p), .ref o, .int x, .int ((yF f q) - (yF f p)), .int (((xF f q) - (xF f p)) * ((y) - (yF f p)))], w)) (by with_unfolding_all rfl) ?_
  refine pr_call rfl (s_invV rfl ho rfl rfl) (r_xOf ho hc hn hn2 (k := p) (by omega)) ?_
  refine pr_blk 3 (q' := (40, [(0, .ref o), (1, .int (nI p)), (2, .int (nI q)), (3, .int x), (4, .int y)], [.int ((((xF f q) - (xF f p)) * ((y) - (yF f p))) - (((yF f q) - (yF f p)) * ((x) - (xF f p))))], w)) (by with_unfolding_all rfl) ?_
  exact pr_retE (r' := some (.int ((((xF f q) - (xF f p)) * ((y) - (yF f p))) - (((yF f q) - (yF f p)) * ((x) - (xF f p)))))) rfl s_retI (rfl)
theorem r_turnOf {w : pW} {o c n : Nat} {f : Nat → Int32} {fs : List Value} (ho : w[o]? = some (.inr (9, .ref c :: fs))) (hc : w[c]? = some (.inl (0, n, .inl f))) (hn : 1780 ≤ n) (hn2 : n < 2 ^ 31) {p q : Nat} (hp : p < 40) (hq : q < 40) {r : Nat} (hr : r < 40) : pRun 202 [.ref o, .int (nI p), .int (nI q), .int (nI r)] w (some (.int (turnF f p q r))) w := by
  refine pr_run rfl ?_
  refine pr_blk 5 (q' := (5, [(0, .ref o), (1, .int (nI p)), (2, .int (nI q)), (3, .int (nI r))], [.int (nI r), .ref o, .int (nI q), .int (nI p), .ref o], w)) (by with_unfolding_all rfl) ?_
  refine pr_call rfl (s_invV rfl ho rfl rfl) (r_xOf ho hc hn hn2 (k := r) (by omega)) ?_
  refine pr_blk 2 (q' := (10, [(0, .ref o), (1, .int (nI p)), (2, .int (nI q)), (3, .int (nI r))], [.int (nI r), .ref o, .int (xF f r), .int (nI q), .int (nI p), .ref o], w)) (by with_unfolding_all rfl) ?_
  refine pr_call rfl (s_invV rfl ho rfl rfl) (r_yOf ho hc hn hn2 (k := r) (by omega)) ?_
  refine pr_call rfl (s_invV rfl ho rfl rfl) (r_sideOf ho hc hn hn2 (p := p) (q := q) (by omega) (by omega) (x := xF f r) (y := yF f r)) ?_
  exact pr_retE (r' := some (.int (sideF f p q (xF f r) (yF f r)))) rfl s_retI (rfl)
theorem r_squareOf {w : pW} {o c n : Nat} {f : Nat → Int32} {fs : List Value} (ho : w[o]? = some (.inr (9, .ref c :: fs))) (hc : w[c]? = some (.inl (0, n, .inl f))) (hn : 1780 ≤ n) (hn2 : n < 2 ^ 31) {p q : Nat} (hp : p < 40) (hq : q < 40) : pRun 204 [.ref o, .int (nI p), .int (nI q)] w (some (.int (squareF f p q))) w := by
  refine pr_run rfl ?_
  refine pr_blk 2 (q' := (2, [(0, .ref o), (1, .int (nI p)), (2, .int (nI q))], [.int (nI q), .ref o], w)) (by with_unfolding_all rfl) ?_
  refine pr_call rfl (s_invV rfl ho rfl rfl) (r_xOf ho hc hn hn2 (k := q) (by omega)) ?_
  refine pr_blk 2 (q' := (7, [(0, .ref o), (1, .int (nI p)), (2, .int (nI q))], [.int (nI p), .ref o, .int (xF f q)], w)) (by with_unfolding_all rfl) ?_
  refine pr_call rfl (s_invV rfl ho rfl rfl) (r_xOf ho hc hn hn2 (k := p) (by omega)) ?_
  refine pr_blk 3 (q' := (13, [(0, .ref o), (1, .int (nI p)), (2, .int (nI q))], [.int (nI q), .ref o, .int ((xF f q) - (xF f p))], w)) (by with_unfolding_all rfl) ?_
  refine pr_call rfl (s_invV rfl ho rfl rfl) (r_xOf ho hc hn hn2 (k := q) (by omega)) ?_
  refine pr_blk 2 (q' := (18, [(0, .ref o), (1, .int (nI p)), (2, .int (nI q))], [.int (nI p), .ref o, .int (xF f q), .int ((xF f q) - (xF f p))], w)) (by with_unfolding_all rfl) ?_
  refine pr_call rfl (s_invV rfl ho rfl rfl) (r_xOf ho hc hn hn2 (k := p) (by omega)) ?_
  refine pr_blk 4 (q' := (25, [(0, .ref o), (1, .int (nI p)), (2, .int (nI q))], [.int (nI q), .ref o, .int (((xF f q) - (xF f p)) * ((xF f q) - (xF f p)))], w)) (by with_unfolding_all rfl) ?_
  refine pr_call rfl (s_invV rfl ho rfl rfl) (r_yOf ho hc hn hn2 (k := q) (by omega)) ?_
  refine pr_blk 2 (q' := (30, [(0, .ref o), (1, .int (nI p)), (2, .int (nI q))], [.int (nI p), .ref o, .int (yF f q), .int (((xF f q) - (xF f p)) * ((xF f q) - (xF f p)))], w)) (by with_unfolding_all rfl) ?_
  refine pr_call rfl (s_invV rfl ho rfl rfl) (r_yOf ho hc hn hn2 (k := p) (by omega)) ?_
  refine pr_blk 3 (q' := (36, [(0, .ref o), (1, .int (nI p)), (2, .int (nI q))], [.int (nI q), .ref o, .int ((yF f q) - (yF f p)), .int (((xF f q) - (xF f p)) * ((xF f q) - (xF f p)))], w)) (by with_unfolding_all rfl) ?_
  refine pr_call rfl (s_invV rfl ho rfl rfl) (r_yOf ho hc hn hn2 (k := q) (by omega)) ?_
  refine pr_blk 2 (q' := (41, [(0, .ref o), (1, .int (nI p)), (2, .int (nI q))], [.int (nI p), .ref o, .int (yF f q), .int ((yF f q) - (yF f p)), .int (((xF f q) - (xF f p)) * ((xF f q) - (xF f p)))], w)) (by with_unfolding_all rfl) ?_
  refine pr_call rfl (s_invV rfl ho rfl rfl) (r_yOf ho hc hn hn2 (k := p) (by omega)) ?_
  refine pr_blk 3 (q' := (47, [(0, .ref o), (1, .int (nI p)), (2, .int (nI q))], [.int ((((xF f q) - (xF f p)) * ((xF f q) - (xF f p))) + (((yF f q) - (yF f p)) * ((yF f q) - (yF f p))))], w)) (by with_unfolding_all rfl) ?_
  exact pr_retE (r' := some (.int ((((xF f q) - (xF f p)) * ((xF f q) - (xF f p))) + (((yF f q) - (yF f p)) * ((yF f q) - (yF f p)))))) rfl s_retI (rfl)
