/-! THE CLASS: who is in sight, what can be fixed. Rows laid by program (wip/p63/wk.py, mk38.py). -/
abbrev St.sightP (S : St) (a b n : Nat) : Prop := ∀ q : Nat, q < n → ¬ (S.has q ∧ S.betw a b q)
abbrev St.sightE (S : St) (a b n : Nat) : Prop := ∀ q : Nat, q < n → ¬ (S.bound (S.e1 q) (S.e2 q) ∧ S.cut (S.e1 q) (S.e2 q) (S.xs a) (S.ys a) (S.xs b) (S.ys b))
abbrev St.sight (S : St) (a b E : Nat) : Prop := S.has a ∧ S.has b ∧ a ≠ b ∧ S.sightP a b 40 ∧ S.sightE a b E
theorem l_sightE {pre post : pW} {m : Nat} (hm : pre.length = m) (S : St) {E : Nat} (hE : S.ec = (E : Int)) (hE2 : E ≤ 113) (hN : S.okN) {a b : Nat} (ha : a < 40) (hb : b < 40) (h : S.inB) (hpa : S.has a) (hpb : S.has b) (hne : a ≠ b) (hPP : S.sightP a b 40) : ∀ (n e : Nat), e + n = E → S.sightE a b e → qE 41 (71, [(3, .int (iI (e : Int))), (0, .ref m), (1, .int (iI (a : Int))), (2, .int (iI (b : Int)))], [], (pre ++ (mB m S ++ post))) (fun r' w' => r' = (some (.int (bI (decide (S.sight a b E))))) ∧ w' = (pre ++ (mB m S ++ post))) := by
  intro n
  induction n with
  | zero =>
    intro e he hP
    refine pe_go (pc := 71) rfl (s_iload_n rfl) ?_
    refine pe_go (pc := 72) rfl (s_aload_n rfl) ?_
    refine pe_go (pc := 73) rfl (s_getf (v := .int (iI S.ec)) (gA0 hm (mB_0 _ _ _)) rfl) ?_
    refine pe_go rfl (s_icmp_ge_t ⟨by omega, by omega⟩ ⟨by omega, by omega⟩ (by omega)) ?_
    refine pe_go (pc := 139) rfl (s_iconst (z := 1) rfl) ?_
    exact pe_ret rfl s_ret1 ⟨by rw [decide_eq_true (show S.sight a b E from ⟨hpa, hpb, hne, hPP, fun q hq => hP q (by omega)⟩)], rfl⟩
  | succ n ih =>
    intro e he hP
    refine pe_go (pc := 71) rfl (s_iload_n rfl) ?_
    refine pe_go (pc := 72) rfl (s_aload_n rfl) ?_
    refine pe_go (pc := 73) rfl (s_getf (v := .int (iI S.ec)) (gA0 hm (mB_0 _ _ _)) rfl) ?_
    refine pe_go rfl (s_icmp_ge_f ⟨by omega, by omega⟩ ⟨by omega, by omega⟩ (by omega)) ?_
    refine pe_go (pc := 79) rfl (s_aload_n rfl) ?_
    refine pe_go (pc := 80) rfl (s_getf (v := .ref (m + 11)) (gA0 hm (mB_0 _ _ _)) rfl) ?_
    refine pe_go (pc := 83) rfl (s_iconst (z := 2) rfl) ?_
    refine pe_go (pc := 84) rfl (s_iload_n rfl) ?_
    refine pe_go (pc := 85) rfl s_imul ?_
    refine pe_go (pc := 86) rfl (s_iald (n := 226) (f := S.en) (v := ((S.e1 e : Nat) : Int)) (gA hm (mB_en _ _ _)) (k := 2 * e) (by omega) (by omega) (by decide) (St.e1_eq hN (by omega))) ?_
    refine pe_go (pc := 87) rfl (s_istore (lv' := [(4, .int (iI ((S.e1 e : Nat) : Int))), (3, .int (iI (e : Int))), (0, .ref m), (1, .int (iI (a : Int))), (2, .int (iI (b : Int)))]) rfl) ?_
    refine pe_go (pc := 89) rfl (s_aload_n rfl) ?_
    refine pe_go (pc := 90) rfl (s_getf (v := .ref (m + 11)) (gA0 hm (mB_0 _ _ _)) rfl) ?_
    refine pe_go (pc := 93) rfl (s_iconst (z := 2) rfl) ?_
    refine pe_go (pc := 94) rfl (s_iload_n rfl) ?_
    refine pe_go (pc := 95) rfl s_imul ?_
    refine pe_go (pc := 96) rfl (s_iconst (z := 1) rfl) ?_
    refine pe_go (pc := 97) rfl s_iadd ?_
    refine pe_go (pc := 98) rfl (s_iald (n := 226) (f := S.en) (v := ((S.e2 e : Nat) : Int)) (gA hm (mB_en _ _ _)) (k := (2 * e) + 1) (by omega) (by omega) (by decide) (St.e2_eq hN (by omega))) ?_
    refine pe_go (pc := 99) rfl (s_istore (lv' := [(5, .int (iI ((S.e2 e : Nat) : Int))), (4, .int (iI ((S.e1 e : Nat) : Int))), (3, .int (iI (e : Int))), (0, .ref m), (1, .int (iI (a : Int))), (2, .int (iI (b : Int)))]) rfl) ?_
    refine pe_go (pc := 101) rfl (s_aload_n rfl) ?_
    refine pe_go (pc := 102) rfl (s_getf (v := .ref (m + 1)) (gA0 hm (mB_0 _ _ _)) rfl) ?_
    refine pe_go (pc := 105) rfl (s_iload rfl) ?_
    refine pe_go (pc := 107) rfl (s_iload rfl) ?_
    refine pe_call rfl (s_invV rfl (gA hm (mB_1 _ _ _)) rfl rfl) (c_isBound hm S (St.e1_lt hN (by omega)) (St.e2_lt hN (by omega))) ?_
    by_cases b1 : S.bound (S.e1 e) (S.e2 e)
    · skip
      refine pe_go rfl (s_ifeq_true (decide_eq_true b1)) ?_
      refine pe_go (pc := 115) rfl (s_aload_n rfl) ?_
      refine pe_go (pc := 116) rfl (s_getf (v := .ref (m + 1)) (gA0 hm (mB_0 _ _ _)) rfl) ?_
      refine pe_go (pc := 119) rfl (s_iload rfl) ?_
      refine pe_go (pc := 121) rfl (s_iload rfl) ?_
      refine pe_go (pc := 123) rfl (s_iload_n rfl) ?_
      refine pe_go (pc := 124) rfl (s_iload_n rfl) ?_
      refine pe_call rfl (s_invV rfl (gA hm (mB_1 _ _ _)) rfl rfl) (c_cutBy hm S (St.e1_lt hN (by omega)) (St.e2_lt hN (by omega)) ha hb h) ?_
      by_cases b2 : S.cut (S.e1 e) (S.e2 e) (S.xs a) (S.ys a) (S.xs b) (S.ys b)
      · skip
        refine pe_go rfl (s_ifeq_true (decide_eq_true b2)) ?_
        refine pe_go (pc := 131) rfl (s_iconst (z := 0) rfl) ?_
        exact pe_ret rfl s_ret0 ⟨by rw [decide_eq_false (show ¬ (S.sight a b E) from (fun z => z.2.2.2.2 e (by omega) ⟨by assumption, by assumption⟩))], rfl⟩
      · skip
        refine pe_go rfl (s_ifeq_false (decide_eq_false b2)) ?_
        refine pe_go (pc := 133) rfl (s_iinc (x := (e : Int)) (y := ((e + 1 : Nat) : Int)) rfl (by omega) (lv' := [(3, .int (iI ((e + 1 : Nat) : Int))), (5, .int (iI ((S.e2 e : Nat) : Int))), (4, .int (iI ((S.e1 e : Nat) : Int))), (0, .ref m), (1, .int (iI (a : Int))), (2, .int (iI (b : Int)))]) rfl) ?_
        refine pe_go (pc := 136) rfl s_goto ?_
        refine pe_few (lv := [(3, .int (iI ((e + 1 : Nat) : Int))), (0, .ref m), (1, .int (iI (a : Int))), (2, .int (iI (b : Int)))]) rfl rfl (by intro q hq; simp only [List.mem_cons, List.not_mem_nil, or_false] at hq; rcases hq with rfl | rfl | rfl | rfl <;> rfl) ?_
        refine ih (e + 1) (by omega) (fun q hq => ?_)
        by_cases g : q = e
        · subst g
          intro z
          first | exact absurd z.1 (by assumption) | exact absurd z.2 (by assumption)
        · exact hP q (by omega)
    · skip
      refine pe_go rfl (s_ifeq_false (decide_eq_false b1)) ?_
      refine pe_go (pc := 133) rfl (s_iinc (x := (e : Int)) (y := ((e + 1 : Nat) : Int)) rfl (by omega) (lv' := [(3, .int (iI ((e + 1 : Nat) : Int))), (5, .int (iI ((S.e2 e : Nat) : Int))), (4, .int (iI ((S.e1 e : Nat) : Int))), (0, .ref m), (1, .int (iI (a : Int))), (2, .int (iI (b : Int)))]) rfl) ?_
      refine pe_go (pc := 136) rfl s_goto ?_
      refine pe_few (lv := [(3, .int (iI ((e + 1 : Nat) : Int))), (0, .ref m), (1, .int (iI (a : Int))), (2, .int (iI (b : Int)))]) rfl rfl (by intro q hq; simp only [List.mem_cons, List.not_mem_nil, or_false] at hq; rcases hq with rfl | rfl | rfl | rfl <;> rfl) ?_
      refine ih (e + 1) (by omega) (fun q hq => ?_)
      by_cases g : q = e
      · subst g
        intro z
        first | exact absurd z.1 (by assumption) | exact absurd z.2 (by assumption)
      · exact hP q (by omega)
theorem l_sightP {pre post : pW} {m : Nat} (hm : pre.length = m) (S : St) {E : Nat} (hE : S.ec = (E : Int)) (hE2 : E ≤ 113) (hN : S.okN) {a b : Nat} (ha : a < 40) (hb : b < 40) (h : S.inB) (hpa : S.has a) (hpb : S.has b) (hne : a ≠ b) : ∀ (n p : Nat), p + n = 40 → S.sightP a b p → qE 41 (31, [(3, .int (iI (p : Int))), (0, .ref m), (1, .int (iI (a : Int))), (2, .int (iI (b : Int)))], [], (pre ++ (mB m S ++ post))) (fun r' w' => r' = (some (.int (bI (decide (S.sight a b E))))) ∧ w' = (pre ++ (mB m S ++ post))) := by
  intro n
  induction n with
  | zero =>
    intro p he hP
    refine pe_go (pc := 31) rfl (s_iload_n rfl) ?_
    refine pe_go (pc := 32) rfl (s_bipush (z := 40) rfl) ?_
    refine pe_go rfl (s_icmp_ge_t ⟨by omega, by omega⟩ ⟨by decide, by decide⟩ (by omega)) ?_
    refine pe_go (pc := 69) rfl (s_iconst (z := 0) rfl) ?_
    refine pe_go (pc := 70) rfl (s_istore_n (lv' := [(3, .int (iI 0)), (0, .ref m), (1, .int (iI (a : Int))), (2, .int (iI (b : Int)))]) rfl) ?_
    refine pe_few (lv := [(3, .int (iI ((0 : Nat) : Int))), (0, .ref m), (1, .int (iI (a : Int))), (2, .int (iI (b : Int)))]) rfl rfl (by intro q hq; simp only [List.mem_cons, List.not_mem_nil, or_false] at hq; rcases hq with rfl | rfl | rfl | rfl <;> rfl) ?_
    exact l_sightE hm S hE hE2 hN ha hb h hpa hpb hne (fun q hq => hP q (by omega)) E 0 (by omega) (fun q hq => by omega)
  | succ n ih =>
    intro p he hP
    refine pe_go (pc := 31) rfl (s_iload_n rfl) ?_
    refine pe_go (pc := 32) rfl (s_bipush (z := 40) rfl) ?_
    refine pe_go rfl (s_icmp_ge_f ⟨by omega, by omega⟩ ⟨by decide, by decide⟩ (by omega)) ?_
    refine pe_go (pc := 37) rfl (s_aload_n rfl) ?_
    refine pe_go (pc := 38) rfl (s_getf (v := .ref (m + 1)) (gA0 hm (mB_0 _ _ _)) rfl) ?_
    refine pe_go (pc := 41) rfl (s_iload_n rfl) ?_
    refine pe_call rfl (s_invV rfl (gA hm (mB_1 _ _ _)) rfl rfl) (c_has hm S (by omega : p < 40)) ?_
    by_cases b1 : S.has p
    · skip
      refine pe_go rfl (s_ifeq_true (decide_eq_true b1)) ?_
      refine pe_go (pc := 48) rfl (s_aload_n rfl) ?_
      refine pe_go (pc := 49) rfl (s_getf (v := .ref (m + 1)) (gA0 hm (mB_0 _ _ _)) rfl) ?_
      refine pe_go (pc := 52) rfl (s_iload_n rfl) ?_
      refine pe_go (pc := 53) rfl (s_iload_n rfl) ?_
      refine pe_go (pc := 54) rfl (s_iload_n rfl) ?_
      refine pe_call rfl (s_invV rfl (gA hm (mB_1 _ _ _)) rfl rfl) (c_between hm S ha hb (by omega : p < 40) h) ?_
      by_cases b2 : S.betw a b p
      · skip
        refine pe_go rfl (s_ifeq_true (decide_eq_true b2)) ?_
        refine pe_go (pc := 61) rfl (s_iconst (z := 0) rfl) ?_
        exact pe_ret rfl s_ret0 ⟨by rw [decide_eq_false (show ¬ (S.sight a b E) from (fun z => z.2.2.2.1 p (by omega) ⟨by assumption, by assumption⟩))], rfl⟩
      · skip
        refine pe_go rfl (s_ifeq_false (decide_eq_false b2)) ?_
        refine pe_go (pc := 63) rfl (s_iinc (x := (p : Int)) (y := ((p + 1 : Nat) : Int)) rfl (by omega) (lv' := [(3, .int (iI ((p + 1 : Nat) : Int))), (0, .ref m), (1, .int (iI (a : Int))), (2, .int (iI (b : Int)))]) rfl) ?_
        refine pe_go (pc := 66) rfl s_goto ?_
        refine pe_few (lv := [(3, .int (iI ((p + 1 : Nat) : Int))), (0, .ref m), (1, .int (iI (a : Int))), (2, .int (iI (b : Int)))]) rfl rfl (by intro q hq; simp only [List.mem_cons, List.not_mem_nil, or_false] at hq; rcases hq with rfl | rfl | rfl | rfl <;> rfl) ?_
        refine ih (p + 1) (by omega) (fun q hq => ?_)
        by_cases g : q = p
        · subst g
          intro z
          first | exact absurd z.1 (by assumption) | exact absurd z.2 (by assumption)
        · exact hP q (by omega)
    · skip
      refine pe_go rfl (s_ifeq_false (decide_eq_false b1)) ?_
      refine pe_go (pc := 63) rfl (s_iinc (x := (p : Int)) (y := ((p + 1 : Nat) : Int)) rfl (by omega) (lv' := [(3, .int (iI ((p + 1 : Nat) : Int))), (0, .ref m), (1, .int (iI (a : Int))), (2, .int (iI (b : Int)))]) rfl) ?_
      refine pe_go (pc := 66) rfl s_goto ?_
      refine pe_few (lv := [(3, .int (iI ((p + 1 : Nat) : Int))), (0, .ref m), (1, .int (iI (a : Int))), (2, .int (iI (b : Int)))]) rfl rfl (by intro q hq; simp only [List.mem_cons, List.not_mem_nil, or_false] at hq; rcases hq with rfl | rfl | rfl | rfl <;> rfl) ?_
      refine ih (p + 1) (by omega) (fun q hq => ?_)
      by_cases g : q = p
      · subst g
        intro z
        first | exact absurd z.1 (by assumption) | exact absurd z.2 (by assumption)
      · exact hP q (by omega)
theorem c_sight {pre post : pW} {m : Nat} (hm : pre.length = m) (S : St) {E : Nat} (hE : S.ec = (E : Int)) (hE2 : E ≤ 113) (hN : S.okN) {a b : Nat} (ha : a < 40) (hb : b < 40) (h : S.inB) : pRun 41 [.ref m, .int (iI (a : Int)), .int (iI (b : Int))] (pre ++ (mB m S ++ post)) (some (.int (bI (decide (S.sight a b E))))) (pre ++ (mB m S ++ post)) := by
  refine qx_run ?_
  refine pc_run (lv := [(0, .ref m), (1, .int (iI (a : Int))), (2, .int (iI (b : Int)))]) rfl ?_
  refine pe_go (pc := 0) rfl (s_aload_n rfl) ?_
  refine pe_go (pc := 1) rfl (s_getf (v := .ref (m + 1)) (gA0 hm (mB_0 _ _ _)) rfl) ?_
  refine pe_go (pc := 4) rfl (s_iload_n rfl) ?_
  refine pe_call rfl (s_invV rfl (gA hm (mB_1 _ _ _)) rfl rfl) (c_has hm S ha) ?_
  by_cases b1 : S.has a
  · skip
    refine pe_go rfl (s_ifeq_true (decide_eq_true b1)) ?_
    refine pe_go (pc := 11) rfl (s_aload_n rfl) ?_
    refine pe_go (pc := 12) rfl (s_getf (v := .ref (m + 1)) (gA0 hm (mB_0 _ _ _)) rfl) ?_
    refine pe_go (pc := 15) rfl (s_iload_n rfl) ?_
    refine pe_call rfl (s_invV rfl (gA hm (mB_1 _ _ _)) rfl rfl) (c_has hm S hb) ?_
    by_cases b2 : S.has b
    · skip
      refine pe_go rfl (s_ifeq_true (decide_eq_true b2)) ?_
      refine pe_go (pc := 22) rfl (s_iload_n rfl) ?_
      refine pe_go (pc := 23) rfl (s_iload_n rfl) ?_
      by_cases c3 : (a : Int) = (b : Int)
      · skip
        refine pe_go rfl (s_icmp_ne_f ⟨by omega, by omega⟩ ⟨by omega, by omega⟩ (fun e => e c3)) ?_
        refine pe_go (pc := 27) rfl (s_iconst (z := 0) rfl) ?_
        exact pe_ret rfl s_ret0 ⟨by rw [decide_eq_false (show ¬ (S.sight a b E) from (by rintro ⟨z1, z2, z3, -⟩; first | exact absurd z1 (by assumption) | exact absurd z2 (by assumption) | exact absurd (by omega) z3))], rfl⟩
      · skip
        refine pe_go rfl (s_icmp_ne_t ⟨by omega, by omega⟩ ⟨by omega, by omega⟩ c3) ?_
        refine pe_go (pc := 29) rfl (s_iconst (z := 0) rfl) ?_
        refine pe_go (pc := 30) rfl (s_istore_n (lv' := [(3, .int (iI 0)), (0, .ref m), (1, .int (iI (a : Int))), (2, .int (iI (b : Int)))]) rfl) ?_
        refine pe_few (lv := [(3, .int (iI ((0 : Nat) : Int))), (0, .ref m), (1, .int (iI (a : Int))), (2, .int (iI (b : Int)))]) rfl rfl (by intro q hq; simp only [List.mem_cons, List.not_mem_nil, or_false] at hq; rcases hq with rfl | rfl | rfl | rfl <;> rfl) ?_
        exact l_sightP hm S hE hE2 hN ha hb h (by assumption) (by assumption) (by omega) 40 0 rfl (fun q hq => by omega)
    · skip
      refine pe_go rfl (s_ifeq_false (decide_eq_false b2)) ?_
      refine pe_go (pc := 27) rfl (s_iconst (z := 0) rfl) ?_
      exact pe_ret rfl s_ret0 ⟨by rw [decide_eq_false (show ¬ (S.sight a b E) from (by rintro ⟨z1, z2, z3, -⟩; first | exact absurd z1 (by assumption) | exact absurd z2 (by assumption) | exact absurd (by omega) z3))], rfl⟩
  · skip
    refine pe_go rfl (s_ifeq_false (decide_eq_false b1)) ?_
    refine pe_go (pc := 27) rfl (s_iconst (z := 0) rfl) ?_
    exact pe_ret rfl s_ret0 ⟨by rw [decide_eq_false (show ¬ (S.sight a b E) from (by rintro ⟨z1, z2, z3, -⟩; first | exact absurd z1 (by assumption) | exact absurd z2 (by assumption) | exact absurd (by omega) z3))], rfl⟩
theorem c_canFix {pre post : pW} {m : Nat} (hm : pre.length = m) (S : St) {E : Nat} (hE : S.ec = (E : Int)) (hE2 : E ≤ 113) (hN : S.okN) {a b : Nat} (ha : a < 40) (hb : b < 40) (h : S.inB) : pRun 10 [.ref m, .int (iI (a : Int)), .int (iI (b : Int))] (pre ++ (mB m S ++ post)) (some (.int (bI (decide (S.sight a b E ∧ ¬ S.bound a b))))) (pre ++ (mB m S ++ post)) := by
  refine qx_run ?_
  refine pc_run (lv := [(0, .ref m), (1, .int (iI (a : Int))), (2, .int (iI (b : Int)))]) rfl ?_
  refine pe_go (pc := 0) rfl (s_aload_n rfl) ?_
  refine pe_go (pc := 1) rfl (s_iload_n rfl) ?_
  refine pe_go (pc := 2) rfl (s_iload_n rfl) ?_
  refine pe_call rfl (s_invV rfl (gA0 hm (mB_0 _ _ _)) rfl rfl) (c_sight hm S hE hE2 hN ha hb h) ?_
  by_cases b1 : S.sight a b E
  · skip
    refine pe_go rfl (s_ifeq_true (decide_eq_true b1)) ?_
    refine pe_go (pc := 9) rfl (s_aload_n rfl) ?_
    refine pe_go (pc := 10) rfl (s_getf (v := .ref (m + 1)) (gA0 hm (mB_0 _ _ _)) rfl) ?_
    refine pe_go (pc := 13) rfl (s_iload_n rfl) ?_
    refine pe_go (pc := 14) rfl (s_iload_n rfl) ?_
    refine pe_call rfl (s_invV rfl (gA hm (mB_1 _ _ _)) rfl rfl) (c_isBound hm S ha hb) ?_
    by_cases b2 : S.bound a b
    · skip
      refine pe_go rfl (s_ifne_true (decide_eq_true b2)) ?_
      refine pe_go (pc := 25) rfl (s_iconst (z := 0) rfl) ?_
      exact pe_ret rfl s_ret0 ⟨by rw [decide_eq_false (show ¬ (S.sight a b E ∧ ¬ S.bound a b) from (by rintro ⟨z1, z2⟩; first | exact absurd z1 (by assumption) | exact absurd (by assumption) z2))], rfl⟩
    · skip
      refine pe_go rfl (s_ifne_false (decide_eq_false b2)) ?_
      refine pe_go (pc := 21) rfl (s_iconst (z := 1) rfl) ?_
      refine pe_go (pc := 22) rfl s_goto ?_
      exact pe_ret rfl s_ret1 ⟨by rw [decide_eq_true (show S.sight a b E ∧ ¬ S.bound a b from ⟨by assumption, by assumption⟩)], rfl⟩
  · skip
    refine pe_go rfl (s_ifeq_false (decide_eq_false b1)) ?_
    refine pe_go (pc := 25) rfl (s_iconst (z := 0) rfl) ?_
    exact pe_ret rfl s_ret0 ⟨by rw [decide_eq_false (show ¬ (S.sight a b E ∧ ¬ S.bound a b) from (by rintro ⟨z1, z2⟩; first | exact absurd z1 (by assumption) | exact absurd (by assumption) z2))], rfl⟩
