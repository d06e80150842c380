/-! SHORT CUTS: copying, filling. -/
def cpF (f g : Nat → Int32) (i : Nat) : Nat → Int32 := fun k => if k < i then f k else g k
theorem cpF_succ (f g : Nat → Int32) (i : Nat) : upd (cpF f g i) i (f i) = cpF f g (i + 1) := by
  funext k
  unfold upd cpF
  by_cases h : k = i
  · subst h; simp
  · rw [if_neg h]
    by_cases h2 : k < i
    · rw [if_pos h2, if_pos (by omega)]
    · rw [if_neg h2, if_neg (by omega)]
theorem set_get {w : pW} {a : Nat} {c0 c : pCell} (h : w[a]? = some c0) : (w.set a c)[a]? = some c := by
  rw [List.getElem?_set, if_pos rfl, if_pos (List.getElem?_eq_some_iff.mp h).1]
theorem set_ne {w : pW} {a b : Nat} {c c0 : pCell} (hab : a ≠ b) (h : w[b]? = some c0) : (w.set a c)[b]? = some c0 := by
  rw [List.getElem?_set, if_neg hab]
  exact h
theorem set_same {w : pW} {a : Nat} {c : pCell} (h : w[a]? = some c) : w.set a c = w := by
  apply List.ext_getElem?
  intro k
  rw [List.getElem?_set]
  by_cases e : a = k
  · subst e
    rw [if_pos rfl, if_pos (List.getElem?_eq_some_iff.mp h).1, h]
  · rw [if_neg e]
theorem copy_loop {w : pW} {a b n n' : Nat} {f g : Nat → Int32} (ha : w[a]? = some (.inl (0, n, .inl f))) (hb : w[b]? = some (.inl (0, n', .inl g))) (hab : b ≠ a) (hn : 37340 ≤ n) (hn' : 37340 ≤ n') (hm : n < 2 ^ 31) (hm' : n' < 2 ^ 31) :
    ∀ m i, i + m = 37340 → pRest 187 (2, [(2, .int (nI i)), (0, .ref a), (1, .ref b)], [], w.set b (.inl (0, n', .inl (cpF f g i)))) none (w.set b (.inl (0, n', .inl (cpF f g 37340)))) := by
  intro m
  induction m with
  | zero =>
    intro i hi
    have hi : i = 37340 := by omega
    subst hi
    refine pr_blk 2 (q' := (5, [(2, .int (nI 37340)), (0, .ref a), (1, .ref b)], [.int (Int32.ofNat 37340), .int (nI 37340)], w.set b (.inl (0, n', .inl (cpF f g 37340))))) (by with_unfolding_all rfl) ?_
    refine pr_go rfl (s_icmp_ge_t (Int32.le_refl _)) ?_
    exact pr_ret rfl rfl
  | succ m ih =>
    intro i hi
    refine pr_blk 2 (q' := (5, [(2, .int (nI i)), (0, .ref a), (1, .ref b)], [.int (Int32.ofNat 37340), .int (nI i)], w.set b (.inl (0, n', .inl (cpF f g i))))) (by with_unfolding_all rfl) ?_
    refine pr_go rfl (s_icmp_ge_f (nI_ge (by omega) (by omega))) ?_
    refine pr_blk 4 (q' := (12, [(2, .int (nI i)), (0, .ref a), (1, .ref b)], [.int (nI i), .ref a, .int (nI i), .ref b], w.set b (.inl (0, n', .inl (cpF f g i))))) (by with_unfolding_all rfl) ?_
    refine pr_go rfl (s_iald (set_ne hab ha) (pInB_nI (by omega) hm)) ?_
    refine pr_go rfl (s_iast (set_get hb) (pInB_nI (by omega) hm')) ?_
    rw [nI_clamp (by omega), List.set_set, cpF_succ]
    refine pr_blk 2 (q' := (2, [(2, .int (nI (i + 1))), (0, .ref a), (1, .ref b)], [], w.set b (.inl (0, n', .inl (cpF f g (i + 1)))))) (by rw [← nI_1]; with_unfolding_all rfl) ?_
    exact ih (i + 1) (by omega)
theorem run_copy {w : pW} {a b n n' : Nat} {f g : Nat → Int32} (ha : w[a]? = some (.inl (0, n, .inl f))) (hb : w[b]? = some (.inl (0, n', .inl g))) (hab : b ≠ a) (hn : 37340 ≤ n) (hn' : 37340 ≤ n') (hm : n < 2 ^ 31) (hm' : n' < 2 ^ 31) : pRun 187 [.ref a, .ref b] w none (w.set b (.inl (0, n', .inl (cpF f g 37340)))) := by
  refine pr_run rfl ?_
  refine pr_blk 2 (q' := (2, [(2, .int (nI 0)), (0, .ref a), (1, .ref b)], [], w)) (by with_unfolding_all rfl) ?_
  have h := copy_loop ha hb hab hn hn' hm hm' 37340 0 rfl
  have e : cpF f g 0 = g := by funext k; simp [cpF]
  rw [e, set_same hb] at h
  exact h
def flF (v : Int32) (g : Nat → Int32) (i : Nat) : Nat → Int32 := fun k => if k < i then v else g k
theorem flF_succ (v : Int32) (g : Nat → Int32) (i : Nat) : upd (flF v g i) i v = flF v g (i + 1) := by
  funext k
  unfold upd flF
  by_cases h : k = i
  · subst h; simp
  · rw [if_neg h]
    by_cases h2 : k < i
    · rw [if_pos h2, if_pos (by omega)]
    · rw [if_neg h2, if_neg (by omega)]
theorem fill_loop {w : pW} {a n : Nat} {g : Nat → Int32} {v : Int32} (ha : w[a]? = some (.inl (0, n, .inl g))) (hn : n < 2 ^ 31) :
    ∀ m i, i + m = n → pRest 356 (5, [(0, .ref a), (1, .int v), (2, .int (nI i)), (3, .int (nI n))], [], w.set a (.inl (0, n, .inl (flF v g i)))) none (w.set a (.inl (0, n, .inl (flF v g n)))) := by
  intro m
  induction m with
  | zero =>
    intro i hi
    have hi : i = n := by omega
    subst hi
    refine pr_blk 2 (q' := (7, [(0, .ref a), (1, .int v), (2, .int (nI i)), (3, .int (nI i))], [.int (nI i), .int (nI i)], w.set a (.inl (0, i, .inl (flF v g i))))) (by with_unfolding_all rfl) ?_
    refine pr_go rfl (s_icmp_ge_t (Int32.le_refl _)) ?_
    exact pr_ret rfl rfl
  | succ m ih =>
    intro i hi
    refine pr_blk 2 (q' := (7, [(0, .ref a), (1, .int v), (2, .int (nI i)), (3, .int (nI n))], [.int (nI n), .int (nI i)], w.set a (.inl (0, n, .inl (flF v g i))))) (by with_unfolding_all rfl) ?_
    refine pr_go rfl (s_icmp_ge_f (nI_ge (by omega) (by omega))) ?_
    refine pr_blk 3 (q' := (13, [(0, .ref a), (1, .int v), (2, .int (nI i)), (3, .int (nI n))], [.int v, .int (nI i), .ref a], w.set a (.inl (0, n, .inl (flF v g i))))) (by with_unfolding_all rfl) ?_
    refine pr_go rfl (s_iast (set_get ha) (pInB_nI (by omega) hn)) ?_
    rw [nI_clamp (by omega), List.set_set, flF_succ]
    refine pr_blk 2 (q' := (5, [(2, .int (nI (i + 1))), (0, .ref a), (1, .int v), (3, .int (nI n))], [], w.set a (.inl (0, n, .inl (flF v g (i + 1)))))) (by rw [← nI_1]; with_unfolding_all rfl) ?_
    exact pr_less (lvLe_of rfl rfl (by repeat' (first | exact (fun _ h => absurd h List.not_mem_nil) | refine List.forall_mem_cons.mpr ⟨rfl, ?_⟩))) (ih (i + 1) (by omega))
theorem run_fill {w : pW} {a n : Nat} {g : Nat → Int32} {v : Int32} (ha : w[a]? = some (.inl (0, n, .inl g))) (hn : n < 2 ^ 31) : pRun 356 [.ref a, .int v] w none (w.set a (.inl (0, n, .inl (flF v g n)))) := by
  refine pr_run rfl ?_
  refine pr_blk 3 (q' := (3, [(2, .int (nI 0)), (0, .ref a), (1, .int v)], [.ref a], w)) (by with_unfolding_all rfl) ?_
  refine pr_go rfl (s_alen ha rfl) ?_
  refine pr_blk 1 (q' := (5, [(3, .int (nI n)), (2, .int (nI 0)), (0, .ref a), (1, .int v)], [], w)) (by with_unfolding_all rfl) ?_
  have h := fill_loop (v := v) ha hn n 0 (Nat.zero_add n)
  have e : flF v g 0 = g := by funext k; simp [flF]
  rw [e, set_same ha] at h
  exact pr_less (lvLe_of rfl rfl (by repeat' (first | exact (fun _ h => absurd h List.not_mem_nil) | refine List.forall_mem_cons.mpr ⟨rfl, ?_⟩))) h
def flL (v : Int64) (g : Nat → Int64) (i : Nat) : Nat → Int64 := fun k => if k < i then v else g k
theorem flL_succ (v : Int64) (g : Nat → Int64) (i : Nat) : vp_updL (flL v g i) i v = flL v g (i + 1) := by
  funext k
  unfold vp_updL flL
  by_cases h : k = i
  · subst h; simp
  · rw [if_neg h]
    by_cases h2 : k < i
    · rw [if_pos h2, if_pos (by omega)]
    · rw [if_neg h2, if_neg (by omega)]
theorem fillL_loop {w : pW} {a n : Nat} {g : Nat → Int64} {v : Int64} (ha : w[a]? = some (.inl (1, n, .inr (.inl g)))) (hn : n < 2 ^ 31) :
    ∀ m i, i + m = n → pRest 355 (6, [(0, .ref a), (1, .long v), (3, .int (nI i)), (4, .int (nI n))], [], w.set a (.inl (1, n, .inr (.inl (flL v g i))))) none (w.set a (.inl (1, n, .inr (.inl (flL v g n))))) := by
  intro m
  induction m with
  | zero =>
    intro i hi
    have hi : i = n := by omega
    subst hi
    refine pr_blk 2 (q' := (9, [(0, .ref a), (1, .long v), (3, .int (nI i)), (4, .int (nI i))], [.int (nI i), .int (nI i)], w.set a (.inl (1, i, .inr (.inl (flL v g i)))))) (by with_unfolding_all rfl) ?_
    refine pr_go rfl (s_icmp_ge_t (Int32.le_refl _)) ?_
    exact pr_ret rfl rfl
  | succ m ih =>
    intro i hi
    refine pr_blk 2 (q' := (9, [(0, .ref a), (1, .long v), (3, .int (nI i)), (4, .int (nI n))], [.int (nI n), .int (nI i)], w.set a (.inl (1, n, .inr (.inl (flL v g i)))))) (by with_unfolding_all rfl) ?_
    refine pr_go rfl (s_icmp_ge_f (nI_ge (by omega) (by omega))) ?_
    refine pr_blk 3 (q' := (15, [(0, .ref a), (1, .long v), (3, .int (nI i)), (4, .int (nI n))], [.long v, .int (nI i), .ref a], w.set a (.inl (1, n, .inr (.inl (flL v g i)))))) (by with_unfolding_all rfl) ?_
    refine pr_go rfl (s_last (set_get ha) (pInB_nI (by omega) hn)) ?_
    rw [nI_clamp (by omega), List.set_set, flL_succ]
    refine pr_blk 2 (q' := (6, [(3, .int (nI (i + 1))), (0, .ref a), (1, .long v), (4, .int (nI n))], [], w.set a (.inl (1, n, .inr (.inl (flL v g (i + 1))))))) (by rw [← nI_1]; with_unfolding_all rfl) ?_
    exact pr_less (lvLe_of rfl rfl (by repeat' (first | exact (fun _ h => absurd h List.not_mem_nil) | refine List.forall_mem_cons.mpr ⟨rfl, ?_⟩))) (ih (i + 1) (by omega))
theorem run_fillL {w : pW} {a n : Nat} {g : Nat → Int64} {v : Int64} (ha : w[a]? = some (.inl (1, n, .inr (.inl g)))) (hn : n < 2 ^ 31) : pRun 355 [.ref a, .long v] w none (w.set a (.inl (1, n, .inr (.inl (flL v g n))))) := by
  refine pr_run rfl ?_
  refine pr_blk 3 (q' := (3, [(3, .int (nI 0)), (0, .ref a), (1, .long v)], [.ref a], w)) (by with_unfolding_all rfl) ?_
  refine pr_go rfl (s_alen ha rfl) ?_
  refine pr_blk 1 (q' := (6, [(4, .int (nI n)), (3, .int (nI 0)), (0, .ref a), (1, .long v)], [], w)) (by with_unfolding_all rfl) ?_
  have h := fillL_loop (v := v) ha hn n 0 (Nat.zero_add n)
  have e : flL v g 0 = g := by funext k; simp [flL]
  rw [e, set_same ha] at h
  exact pr_less (lvLe_of rfl rfl (by repeat' (first | exact (fun _ h => absurd h List.not_mem_nil) | refine List.forall_mem_cons.mpr ⟨rfl, ?_⟩))) h
