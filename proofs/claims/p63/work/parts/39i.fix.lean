/-! THE CLASS: an edge fixed. Rows laid by program (wip/p63/wk.py, mk39i.py). -/
/-- what the mathematics gives of the rounds in which a b is made an edge: a measure that falls, and what holds with it -/
def fxI (a b : Nat) (I : Nat → St → Prop) : Prop :=
  (∀ n S, I n S → S.wI ∧ S.okN ∧ ∃ E : Nat, E ≤ 113 ∧ S.ec = (E : Int)) ∧ (∀ S, I 0 S → bt (S.ne a) b = true) ∧
  (∀ n S (E : Nat), I (n + 1) S → S.ec = (E : Int) → ¬ bt (S.ne a) b = true → (St.fcl a b E 0 S).okL ∧ ((St.fcl a b E 0 S).okC ∧ (St.fcl a b E 0 S).okN) ∧ ∀ ow co en ne tn ec, ((St.fcl a b E 0 S).ul ow co en ne tn ec).lstE 1600 → ((St.fcl a b E 0 S).ul ow co en ne tn ec).lstT 1600 → I n ((St.fcl a b E 0 S).ul ow co en ne tn ec)) ∧
  (∀ n S, I n S → bt (S.ne a) b = true → (S.bnd a b).setL)
def fixW (pre post : pW) (m a b : Nat) (I : Nat → St → Prop) (r : Option Value) (w' : pW) : Prop := ∃ (n : Nat) (S : St), I n S ∧ bt (S.ne a) b = true ∧ setW pre post m (S.bnd a b) r w'
theorem l_fix {pre post : pW} {m : Nat} (hm : pre.length = m) {a b : Nat} (ha : a < 40) (hb : b < 40) {I : Nat → St → Prop} (hI : fxI a b I) : ∀ (n k : Nat) (S : St), k + n = 1000000 → I n S → qE 11 (8, [(3, .int (iI (k : Int))), (0, .ref m), (1, .int (iI (a : Int))), (2, .int (iI (b : Int)))], [], (pre ++ (mB m S ++ post))) (fixW pre post m a b I) := by
  obtain ⟨i1, i2, i3, i4⟩ := hI
  intro n
  induction n with
  | zero =>
    intro k S hk hi
    obtain ⟨h, hN, E, hE2, hE⟩ := i1 _ S hi
    have hnr := i2 S hi
    refine pe_go (pc := 8) rfl (s_iload_n rfl) ?_
    refine pe_go (pc := 9) rfl (s_ldc (z := 1000000) rfl) ?_
    refine pe_go rfl (s_icmp_ge_t ⟨by omega, by omega⟩ ⟨by decide, by decide⟩ (by omega)) ?_
    refine pe_go (pc := 39) rfl (s_aload_n rfl) ?_
    refine pe_go (pc := 40) rfl (s_getf (v := .ref (m + 1)) (gA0 hm (mB_0 _ _ _)) rfl) ?_
    refine pe_go (pc := 43) rfl (s_iload_n rfl) ?_
    refine pe_go (pc := 44) rfl (s_iload_n rfl) ?_
    refine pe_call rfl (s_invV rfl (gA hm (mB_1 _ _ _)) rfl rfl) (c_bind hm S ha hb) ?_
    refine pe_go (pc := 48) rfl (s_aload_n rfl) ?_
    refine pe_callE rfl (s_invV rfl (gA0 hm (mB_0 _ _ _)) rfl rfl) (c_settle hm (S.bnd a b) (St.bnd_wI h) (i4 _ S hi hnr)) ?_
    rintro _ _ ⟨li1, hli1, rfl, hW1⟩
    exact pe_ret rfl s_retv ⟨0, S, hi, hnr, li1, hli1, rfl, hW1⟩
  | succ n ih =>
    intro k S hk hi
    obtain ⟨h, hN, E, hE2, hE⟩ := i1 _ S hi
    by_cases hnr : bt (S.ne a) b = true
    · skip
      refine pe_go (pc := 8) rfl (s_iload_n rfl) ?_
      refine pe_go (pc := 9) rfl (s_ldc (z := 1000000) rfl) ?_
      refine pe_go rfl (s_icmp_ge_f ⟨by omega, by omega⟩ ⟨by decide, by decide⟩ (by omega)) ?_
      refine pe_go (pc := 14) rfl (s_aload_n rfl) ?_
      refine pe_go (pc := 15) rfl (s_iload_n rfl) ?_
      refine pe_go (pc := 16) rfl (s_iload_n rfl) ?_
      refine pe_call rfl (s_invV rfl (gA0 hm (mB_0 _ _ _)) rfl rfl) (c_isNear hm S ha hb) ?_
      refine pe_go rfl (s_ifne_true (decide_eq_true hnr)) ?_
      refine pe_go (pc := 39) rfl (s_aload_n rfl) ?_
      refine pe_go (pc := 40) rfl (s_getf (v := .ref (m + 1)) (gA0 hm (mB_0 _ _ _)) rfl) ?_
      refine pe_go (pc := 43) rfl (s_iload_n rfl) ?_
      refine pe_go (pc := 44) rfl (s_iload_n rfl) ?_
      refine pe_call rfl (s_invV rfl (gA hm (mB_1 _ _ _)) rfl rfl) (c_bind hm S ha hb) ?_
      refine pe_go (pc := 48) rfl (s_aload_n rfl) ?_
      refine pe_callE rfl (s_invV rfl (gA0 hm (mB_0 _ _ _)) rfl rfl) (c_settle hm (S.bnd a b) (St.bnd_wI h) (i4 _ S hi hnr)) ?_
      rintro _ _ ⟨li1, hli1, rfl, hW1⟩
      exact pe_ret rfl s_retv ⟨n + 1, S, hi, hnr, li1, hli1, rfl, hW1⟩
    · have j3 := i3 n S E hi hE hnr
      refine pe_go (pc := 8) rfl (s_iload_n rfl) ?_
      refine pe_go (pc := 9) rfl (s_ldc (z := 1000000) rfl) ?_
      refine pe_go rfl (s_icmp_ge_f ⟨by omega, by omega⟩ ⟨by decide, by decide⟩ (by omega)) ?_
      refine pe_go (pc := 14) rfl (s_aload_n rfl) ?_
      refine pe_go (pc := 15) rfl (s_iload_n rfl) ?_
      refine pe_go (pc := 16) rfl (s_iload_n rfl) ?_
      refine pe_call rfl (s_invV rfl (gA0 hm (mB_0 _ _ _)) rfl rfl) (c_isNear hm S ha hb) ?_
      refine pe_go rfl (s_ifne_false (decide_eq_false hnr)) ?_
      refine pe_go (pc := 23) rfl (s_aload_n rfl) ?_
      refine pe_go (pc := 24) rfl (s_iload_n rfl) ?_
      refine pe_go (pc := 25) rfl (s_iload_n rfl) ?_
      refine pe_call rfl (s_invV rfl (gA0 hm (mB_0 _ _ _)) rfl rfl) (c_cross hm S ha hb hE hE2 h hN) ?_
      refine pe_go (pc := 29) rfl (s_aload_n rfl) ?_
      refine pe_callE rfl (s_invV rfl (gA0 hm (mB_0 _ _ _)) rfl rfl) (c_list hm (St.fcl a b E 0 S) j3.1 j3.2.1) ?_
      rintro _ _ ⟨rfl, ow, co, en, ne, tn, ec, hlE, hlT, rfl⟩
      refine pe_go (pc := 33) rfl (s_iinc (x := (k : Int)) (y := ((k + 1 : Nat) : Int)) rfl (by omega) (lv' := [(3, .int (iI ((k + 1 : Nat) : Int))), (0, .ref m), (1, .int (iI (a : Int))), (2, .int (iI (b : Int)))]) rfl) ?_
      refine pe_go (pc := 36) rfl s_goto ?_
      refine pe_few (lv := [(3, .int (iI ((k + 1 : Nat) : Int))), (0, .ref m), (1, .int (iI (a : Int))), (2, .int (iI (b : Int)))]) rfl rfl (by intro q hq; simp only [List.mem_cons, List.not_mem_nil, or_false] at hq; rcases hq with rfl | rfl | rfl | rfl <;> rfl) ?_
      exact ih (k + 1) _ (by omega) (j3.2.2 _ _ _ _ _ _ hlE hlT)
theorem c_fixEdge {pre post : pW} {m : Nat} (hm : pre.length = m) (S : St) {a b : Nat} (ha : a < 40) (hb : b < 40) (hB : S.inB) {I : Nat → St → Prop} (hI : fxI a b I) (hi : ∀ li : Nat → Int, (∀ j : Nat, j < 40 → li j = S.liS a b j) → I 1000000 (S.u_li li)) : qC 11 [.ref m, .int (iI (a : Int)), .int (iI (b : Int))] (pre ++ (mB m S ++ post)) (fixW pre post m a b I) := by
  refine pc_run (lv := [(0, .ref m), (1, .int (iI (a : Int))), (2, .int (iI (b : Int)))]) rfl ?_
  refine pe_go (pc := 0) rfl (s_aload_n rfl) ?_
  refine pe_go (pc := 1) rfl (s_iload_n rfl) ?_
  refine pe_go (pc := 2) rfl (s_iload_n rfl) ?_
  refine pe_callE rfl (s_invV rfl (gA0 hm (mB_0 _ _ _)) rfl rfl) (c_liftFrom hm S ha hb hB) ?_
  rintro _ _ ⟨rfl, li1, hli1, rfl⟩
  refine pe_go (pc := 6) rfl (s_iconst (z := 0) rfl) ?_
  refine pe_go (pc := 7) rfl (s_istore_n (lv' := [(3, .int (iI 0)), (0, .ref m), (1, .int (iI (a : Int))), (2, .int (iI (b : Int)))]) rfl) ?_
  refine pe_few (lv := [(3, .int (iI ((0 : Nat) : Int))), (0, .ref m), (1, .int (iI (a : Int))), (2, .int (iI (b : Int)))]) rfl rfl (by intro q hq; simp only [List.mem_cons, List.not_mem_nil, or_false] at hq; rcases hq with rfl | rfl | rfl | rfl <;> rfl) ?_
  exact l_fix hm ha hb hI 1000000 0 _ rfl (hi li1 hli1)
