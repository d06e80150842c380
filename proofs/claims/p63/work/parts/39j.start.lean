/-! THE CLASS: on the border; the JDK's floorDiv. Rows laid by program (wip/p63/wk.py, mk39j.py). -/
theorem zabs_b {x : Int} (h1 : -1000 ≤ x) (h2 : x ≤ 1000) : sm (zabs x) := by
  unfold zabs
  split <;> exact ⟨by omega, by omega⟩
theorem c_onBorder {pre post : pW} {m : Nat} (hm : pre.length = m) (S : St) {p : Nat} (hp : p < 40) (h : S.inB) : pRun 72 [.ref (m + 1), .int (iI (p : Int))] (pre ++ (mB m S ++ post)) (some (.int (bI (decide (zabs (S.xs p) = 1000 ∨ zabs (S.ys p) = 1000))))) (pre ++ (mB m S ++ post)) := by
  refine qx_run ?_
  refine pc_run (lv := [(0, .ref (m + 1)), (1, .int (iI (p : Int)))]) rfl ?_
  have hB9 := h p hp
  refine pe_go (pc := 0) rfl (s_aload_n rfl) ?_
  refine pe_go (pc := 1) rfl (s_getf (v := .ref (m + 2)) (gA hm (mB_1 _ _ _)) rfl) ?_
  refine pe_go (pc := 4) rfl (s_iload_n rfl) ?_
  refine pe_go (pc := 5) rfl (s_iald (n := 40) (f := S.xs) (v := S.xs p) (gA hm (mB_xs _ _ _)) (k := p) (by omega) (by omega) (by decide) rfl) ?_
  refine pe_call rfl (s_invS rfl rfl rfl) (c_abs ⟨by omega, by omega⟩) ?_
  refine pe_go (pc := 9) rfl (s_sipush (z := 1000) rfl) ?_
  by_cases c1 : (zabs (S.xs p)) = 1000
  · skip
    refine pe_go rfl (s_icmp_eq_t (zabs_b (by omega) (by omega)) ⟨by decide, by decide⟩ c1) ?_
    refine pe_go (pc := 30) rfl (s_iconst (z := 1) rfl) ?_
    refine pe_go (pc := 31) rfl s_goto ?_
    exact pe_ret rfl s_ret1 ⟨by rw [decide_eq_true (show zabs (S.xs p) = 1000 ∨ zabs (S.ys p) = 1000 from (by first | exact Or.inl (by assumption) | exact Or.inr (by assumption)))], rfl⟩
  · skip
    refine pe_go rfl (s_icmp_eq_f (zabs_b (by omega) (by omega)) ⟨by decide, by decide⟩ c1) ?_
    refine pe_go (pc := 15) rfl (s_aload_n rfl) ?_
    refine pe_go (pc := 16) rfl (s_getf (v := .ref (m + 3)) (gA hm (mB_1 _ _ _)) rfl) ?_
    refine pe_go (pc := 19) rfl (s_iload_n rfl) ?_
    refine pe_go (pc := 20) rfl (s_iald (n := 40) (f := S.ys) (v := S.ys p) (gA hm (mB_ys _ _ _)) (k := p) (by omega) (by omega) (by decide) rfl) ?_
    refine pe_call rfl (s_invS rfl rfl rfl) (c_abs ⟨by omega, by omega⟩) ?_
    refine pe_go (pc := 24) rfl (s_sipush (z := 1000) rfl) ?_
    by_cases c2 : (zabs (S.ys p)) = 1000
    · skip
      refine pe_go rfl (s_icmp_ne_f (zabs_b (by omega) (by omega)) ⟨by decide, by decide⟩ (fun e => e c2)) ?_
      refine pe_go (pc := 30) rfl (s_iconst (z := 1) rfl) ?_
      refine pe_go (pc := 31) rfl s_goto ?_
      exact pe_ret rfl s_ret1 ⟨by rw [decide_eq_true (show zabs (S.xs p) = 1000 ∨ zabs (S.ys p) = 1000 from (by first | exact Or.inl (by assumption) | exact Or.inr (by assumption)))], rfl⟩
    · skip
      refine pe_go rfl (s_icmp_ne_t (zabs_b (by omega) (by omega)) ⟨by decide, by decide⟩ c2) ?_
      refine pe_go (pc := 34) rfl (s_iconst (z := 0) rfl) ?_
      exact pe_ret rfl s_ret0 ⟨by rw [decide_eq_false (show ¬ (zabs (S.xs p) = 1000 ∨ zabs (S.ys p) = 1000) from (fun z => z.elim (by assumption) (by assumption)))], rfl⟩
