/-! THE CLASS: the mesh asked: corners, sides, what lies across, where a place lies. Rows laid by program (wip/p63/wk.py, mk35.py). -/
/-- corners of triangles and ends of edges are points -/
def St.cn (S : St) (t k : Nat) : Nat := (S.co (3 * t + k)).toNat
def St.e1 (S : St) (e : Nat) : Nat := (S.en (2 * e)).toNat
def St.e2 (S : St) (e : Nat) : Nat := (S.en (2 * e + 1)).toNat
theorem St.cn_eq {S : St} (hC : S.okC) {t k : Nat} (hj : 3 * t + k < 222) : S.co (3 * t + k) = (S.cn t k : Int) := by
  have := hC _ hj
  unfold St.cn
  omega
theorem St.cn_lt {S : St} (hC : S.okC) {t k : Nat} (hj : 3 * t + k < 222) : S.cn t k < 40 := by
  have := hC _ hj
  unfold St.cn
  omega
theorem St.e1_eq {S : St} (hN : S.okN) {e : Nat} (hj : e < 113) : S.en (2 * e) = (S.e1 e : Int) := by
  have := hN (2 * e) (by omega)
  unfold St.e1
  omega
theorem St.e2_eq {S : St} (hN : S.okN) {e : Nat} (hj : e < 113) : S.en (2 * e + 1) = (S.e2 e : Int) := by
  have := hN (2 * e + 1) (by omega)
  unfold St.e2
  omega
theorem St.e1_lt {S : St} (hN : S.okN) {e : Nat} (hj : e < 113) : S.e1 e < 40 := by
  have := hN (2 * e) (by omega)
  unfold St.e1
  omega
theorem St.e2_lt {S : St} (hN : S.okN) {e : Nat} (hj : e < 113) : S.e2 e < 40 := by
  have := hN (2 * e + 1) (by omega)
  unfold St.e2
  omega
theorem St.sd_sm {S : St} (h : S.inB) {a b : Nat} {x y : Int} (ha : a < 40) (hb : b < 40) (hq : inSq x y) : sm (S.sd a b x y) := by
  have := S.sd_b h ha hb hq
  exact ⟨by omega, by omega⟩
theorem St.sd3_sm {S : St} (h : S.inB) {a b c : Nat} (ha : a < 40) (hb : b < 40) (hc : c < 40) : sm (S.sd3 a b c) := by
  have := S.sd3_b h ha hb hc
  exact ⟨by omega, by omega⟩
theorem St.sq_sm {S : St} (h : S.inB) {a b : Nat} (ha : a < 40) (hb : b < 40) : sm (S.sq a b) := by
  have := S.sq_b h ha hb
  exact ⟨by omega, by omega⟩
/-- what lies across the side k of t: a triangle, or nothing -/
def St.acr (S : St) (t k : Nat) : Int := if S.ap (S.cn t ((k + 1) % 3) * 40 + S.cn t k) = -1 then -1 else S.ow (S.cn t ((k + 1) % 3) * 40 + S.cn t k)
abbrev St.hold (S : St) (t : Nat) (x y : Int) : Prop := 0 ≤ S.sd (S.cn t 0) (S.cn t 1) x y ∧ 0 ≤ S.sd (S.cn t 1) (S.cn t 2) x y ∧ 0 ≤ S.sd (S.cn t 2) (S.cn t 0) x y
theorem c_hasTri {pre post : pW} {m : Nat} (hm : pre.length = m) (S : St) {z : Int} (hz : sm z) (hs : sm S.tn) : pRun 29 [.ref m, .int (iI z)] (pre ++ (mB m S ++ post)) (some (.int (bI (decide (0 ≤ z ∧ z < S.tn))))) (pre ++ (mB m S ++ post)) := by
  refine qx_run ?_
  refine pc_run (lv := [(0, .ref m), (1, .int (iI z))]) rfl ?_
  refine pe_go (pc := 0) rfl (s_iload_n rfl) ?_
  by_cases c1 : z < 0
  · skip
    refine pe_go rfl (s_if_lt_t hz c1) ?_
    refine pe_go (pc := 16) rfl (s_iconst (z := 0) rfl) ?_
    exact pe_ret rfl s_ret0 ⟨by rw [decide_eq_false (show ¬ (0 ≤ z ∧ z < S.tn) from (by omega))], rfl⟩
  · skip
    refine pe_go rfl (s_if_lt_f hz c1) ?_
    refine pe_go (pc := 4) rfl (s_iload_n rfl) ?_
    refine pe_go (pc := 5) rfl (s_aload_n rfl) ?_
    refine pe_go (pc := 6) rfl (s_getf (v := .int (iI S.tn)) (gA0 hm (mB_0 _ _ _)) rfl) ?_
    by_cases c2 : S.tn ≤ z
    · skip
      refine pe_go rfl (s_icmp_ge_t hz hs c2) ?_
      refine pe_go (pc := 16) rfl (s_iconst (z := 0) rfl) ?_
      exact pe_ret rfl s_ret0 ⟨by rw [decide_eq_false (show ¬ (0 ≤ z ∧ z < S.tn) from (by omega))], rfl⟩
    · skip
      refine pe_go rfl (s_icmp_ge_f hz hs c2) ?_
      refine pe_go (pc := 12) rfl (s_iconst (z := 1) rfl) ?_
      refine pe_go (pc := 13) rfl s_goto ?_
      exact pe_ret rfl s_ret1 ⟨by rw [decide_eq_true (show 0 ≤ z ∧ z < S.tn from (by omega))], rfl⟩
theorem c_cornerOf {pre post : pW} {m : Nat} (hm : pre.length = m) (S : St) {t k : Nat} (hj : 3 * t + k < 222) (hC : S.okC) : pRun 30 [.ref m, .int (iI (t : Int)), .int (iI (k : Int))] (pre ++ (mB m S ++ post)) (some (.int (iI (S.cn t k : Int)))) (pre ++ (mB m S ++ post)) := by
  refine qx_run ?_
  refine pc_run (lv := [(0, .ref m), (1, .int (iI (t : Int))), (2, .int (iI (k : Int)))]) rfl ?_
  refine pe_go (pc := 0) rfl (s_aload_n rfl) ?_
  refine pe_go (pc := 1) rfl (s_getf (v := .ref (m + 10)) (gA0 hm (mB_0 _ _ _)) rfl) ?_
  refine pe_go (pc := 4) rfl (s_iconst (z := 3) rfl) ?_
  refine pe_go (pc := 5) rfl (s_iload_n rfl) ?_
  refine pe_go (pc := 6) rfl s_imul ?_
  refine pe_go (pc := 7) rfl (s_iload_n rfl) ?_
  refine pe_go (pc := 8) rfl s_iadd ?_
  refine pe_go (pc := 9) rfl (s_iald (n := 222) (f := S.co) (v := (S.cn t k : Int)) (gA hm (mB_co _ _ _)) (k := (3 * t) + k) (by omega) (by omega) (by decide) (St.cn_eq hC hj)) ?_
  exact pe_ret rfl s_reti ⟨rfl, rfl⟩
theorem c_isNear {pre post : pW} {m : Nat} (hm : pre.length = m) (S : St) {a b : Nat} (ha : a < 40) (hb : b < 40) : pRun 31 [.ref m, .int (iI (a : Int)), .int (iI (b : Int))] (pre ++ (mB m S ++ post)) (some (.int (bI (decide (bt (S.ne a) b = true))))) (pre ++ (mB m S ++ post)) := by
  refine qx_run ?_
  refine pc_run (lv := [(0, .ref m), (1, .int (iI (a : Int))), (2, .int (iI (b : Int)))]) rfl ?_
  refine pe_go (pc := 0) rfl (s_aload_n rfl) ?_
  refine pe_go (pc := 1) rfl (s_getf (v := .ref (m + 12)) (gA0 hm (mB_0 _ _ _)) rfl) ?_
  refine pe_go (pc := 4) rfl (s_iload_n rfl) ?_
  refine pe_go (pc := 5) rfl (s_lald (n := 40) (f := S.ne) (v := S.ne a) (gA hm (mB_ne _ _ _)) (k := a) (by omega) (by omega) (by decide) rfl) ?_
  refine pe_go (pc := 6) rfl (s_iload_n rfl) ?_
  refine pe_go (pc := 7) rfl s_lushr ?_
  refine pe_go (pc := 8) rfl s_lconst1 ?_
  refine pe_go (pc := 9) rfl (s_bit (k := b) (by omega) (by omega)) ?_
  refine pe_go (pc := 10) rfl s_lconst0 ?_
  refine pe_go (pc := 11) rfl s_cmpbit ?_
  by_cases b1 : bt (S.ne a) b = true
  · skip
    refine pe_go rfl (s_ifeq_true b1) ?_
    refine pe_go (pc := 15) rfl (s_iconst (z := 1) rfl) ?_
    refine pe_go (pc := 16) rfl s_goto ?_
    exact pe_ret rfl s_ret1 ⟨by rw [decide_eq_true (show bt (S.ne a) b = true from (by assumption))], rfl⟩
  · skip
    refine pe_go rfl (s_ifeq_false (eq_false_of_ne_true b1)) ?_
    refine pe_go (pc := 19) rfl (s_iconst (z := 0) rfl) ?_
    exact pe_ret rfl s_ret0 ⟨by rw [decide_eq_false (show ¬ (bt (S.ne a) b = true) from (by assumption))], rfl⟩
theorem c_across {pre post : pW} {m : Nat} (hm : pre.length = m) (S : St) {t k : Nat} (ht : t < 74) (hk : k < 3) (hC : S.okC) (hA : S.okA) : pRun 32 [.ref m, .int (iI (t : Int)), .int (iI (k : Int))] (pre ++ (mB m S ++ post)) (some (.int (iI (S.acr t k)))) (pre ++ (mB m S ++ post)) := by
  refine qx_run ?_
  refine pc_run (lv := [(0, .ref m), (1, .int (iI (t : Int))), (2, .int (iI (k : Int)))]) rfl ?_
  have hn1 : S.cn t ((k + 1) % 3) < 40 := St.cn_lt hC (by omega)
  have hn0 : S.cn t k < 40 := St.cn_lt hC (by omega)
  have hap := hA (S.cn t ((k + 1) % 3) * 40 + S.cn t k) (by omega)
  refine pe_go (pc := 0) rfl (s_aload_n rfl) ?_
  refine pe_go (pc := 1) rfl (s_iload_n rfl) ?_
  refine pe_go (pc := 2) rfl (s_iload_n rfl) ?_
  refine pe_go (pc := 3) rfl (s_iconst (z := 1) rfl) ?_
  refine pe_go (pc := 4) rfl s_iadd ?_
  refine pe_go (pc := 5) rfl (s_iconst (z := 3) rfl) ?_
  refine pe_go (pc := 6) rfl (s_irem ⟨by omega, by omega⟩ ⟨by decide, by decide⟩ (by decide) (by omega) (by rw [Int.tmod_eq_emod_of_nonneg (by omega)] <;> omega)) ?_
  refine pe_call rfl (s_invV rfl (gA0 hm (mB_0 _ _ _)) rfl rfl) (c_cornerOf hm S (t := t) (k := ((k + 1) % 3)) (by omega) hC) ?_
  refine pe_go (pc := 10) rfl (s_bipush (z := 40) rfl) ?_
  refine pe_go (pc := 12) rfl s_imul ?_
  refine pe_go (pc := 13) rfl (s_aload_n rfl) ?_
  refine pe_go (pc := 14) rfl (s_iload_n rfl) ?_
  refine pe_go (pc := 15) rfl (s_iload_n rfl) ?_
  refine pe_call rfl (s_invV rfl (gA0 hm (mB_0 _ _ _)) rfl rfl) (c_cornerOf hm S (t := t) (k := k) (by omega) hC) ?_
  refine pe_go (pc := 19) rfl s_iadd ?_
  refine pe_go (pc := 20) rfl (s_istore_n (lv' := [(3, .int (iI ((((S.cn t ((k + 1) % 3) : Nat) : Int) * 40) + ((S.cn t k : Nat) : Int)))), (0, .ref m), (1, .int (iI (t : Int))), (2, .int (iI (k : Int)))]) rfl) ?_
  refine pe_go (pc := 21) rfl (s_aload_n rfl) ?_
  refine pe_go (pc := 22) rfl (s_getf (v := .ref (m + 8)) (gA0 hm (mB_0 _ _ _)) rfl) ?_
  refine pe_go (pc := 25) rfl (s_iload_n rfl) ?_
  refine pe_go (pc := 26) rfl (s_iald (n := 1600) (f := S.ap) (v := S.ap (((S.cn t ((k + 1) % 3)) * 40) + (S.cn t k))) (gA hm (mB_ap _ _ _)) (k := ((S.cn t ((k + 1) % 3)) * 40) + (S.cn t k)) (by omega) (by omega) (by decide) rfl) ?_
  refine pe_go (pc := 27) rfl (s_iconst (z := -1) rfl) ?_
  by_cases c1 : (S.ap (((S.cn t ((k + 1) % 3)) * 40) + (S.cn t k))) = (-1)
  · skip
    refine pe_go rfl (s_icmp_ne_f ⟨by omega, by omega⟩ ⟨by decide, by decide⟩ (fun e => e c1)) ?_
    refine pe_go (pc := 31) rfl (s_iconst (z := -1) rfl) ?_
    refine pe_go (pc := 32) rfl s_goto ?_
    refine pe_ret rfl s_reti ⟨?_, rfl⟩
    unfold St.acr
    first | rw [if_pos (by assumption)] | rw [if_neg (by assumption)]
  · skip
    refine pe_go rfl (s_icmp_ne_t ⟨by omega, by omega⟩ ⟨by decide, by decide⟩ c1) ?_
    refine pe_go (pc := 35) rfl (s_aload_n rfl) ?_
    refine pe_go (pc := 36) rfl (s_getf (v := .ref (m + 9)) (gA0 hm (mB_0 _ _ _)) rfl) ?_
    refine pe_go (pc := 39) rfl (s_iload_n rfl) ?_
    refine pe_go (pc := 40) rfl (s_iald (n := 1600) (f := S.ow) (v := S.ow (((S.cn t ((k + 1) % 3)) * 40) + (S.cn t k))) (gA hm (mB_ow _ _ _)) (k := ((S.cn t ((k + 1) % 3)) * 40) + (S.cn t k)) (by omega) (by omega) (by decide) rfl) ?_
    refine pe_ret rfl s_reti ⟨?_, rfl⟩
    unfold St.acr
    first | rw [if_pos (by assumption)] | rw [if_neg (by assumption)]
theorem c_isOpen {pre post : pW} {m : Nat} (hm : pre.length = m) (S : St) {t k : Nat} (ht : t < 74) (hk : k < 3) (hC : S.okC) : pRun 33 [.ref m, .int (iI (t : Int)), .int (iI (k : Int))] (pre ++ (mB m S ++ post)) (some (.int (bI (decide (¬ S.bound (S.cn t k) (S.cn t ((k + 1) % 3))))))) (pre ++ (mB m S ++ post)) := by
  refine qx_run ?_
  refine pc_run (lv := [(0, .ref m), (1, .int (iI (t : Int))), (2, .int (iI (k : Int)))]) rfl ?_
  refine pe_go (pc := 0) rfl (s_aload_n rfl) ?_
  refine pe_go (pc := 1) rfl (s_getf (v := .ref (m + 1)) (gA0 hm (mB_0 _ _ _)) rfl) ?_
  refine pe_go (pc := 4) rfl (s_aload_n rfl) ?_
  refine pe_go (pc := 5) rfl (s_iload_n rfl) ?_
  refine pe_go (pc := 6) rfl (s_iload_n rfl) ?_
  refine pe_call rfl (s_invV rfl (gA0 hm (mB_0 _ _ _)) rfl rfl) (c_cornerOf hm S (t := t) (k := k) (by omega) hC) ?_
  refine pe_go (pc := 10) rfl (s_aload_n rfl) ?_
  refine pe_go (pc := 11) rfl (s_iload_n rfl) ?_
  refine pe_go (pc := 12) rfl (s_iload_n rfl) ?_
  refine pe_go (pc := 13) rfl (s_iconst (z := 1) rfl) ?_
  refine pe_go (pc := 14) rfl s_iadd ?_
  refine pe_go (pc := 15) rfl (s_iconst (z := 3) rfl) ?_
  refine pe_go (pc := 16) rfl (s_irem ⟨by omega, by omega⟩ ⟨by decide, by decide⟩ (by decide) (by omega) (by rw [Int.tmod_eq_emod_of_nonneg (by omega)] <;> omega)) ?_
  refine pe_call rfl (s_invV rfl (gA0 hm (mB_0 _ _ _)) rfl rfl) (c_cornerOf hm S (t := t) (k := ((k + 1) % 3)) (by omega) hC) ?_
  refine pe_call rfl (s_invV rfl (gA hm (mB_1 _ _ _)) rfl rfl) (c_isBound hm S (St.cn_lt hC (by omega)) (St.cn_lt hC (by omega))) ?_
  by_cases b1 : S.bound ((S.cn t k)) ((S.cn t ((k + 1) % 3)))
  · skip
    refine pe_go rfl (s_ifne_true (decide_eq_true b1)) ?_
    refine pe_go (pc := 30) rfl (s_iconst (z := 0) rfl) ?_
    exact pe_ret rfl s_ret0 ⟨by rw [decide_eq_false (show ¬ (¬ S.bound (S.cn t k) (S.cn t ((k + 1) % 3))) from (fun z => absurd (by assumption) z))], rfl⟩
  · skip
    refine pe_go rfl (s_ifne_false (decide_eq_false b1)) ?_
    refine pe_go (pc := 26) rfl (s_iconst (z := 1) rfl) ?_
    refine pe_go (pc := 27) rfl s_goto ?_
    exact pe_ret rfl s_ret1 ⟨by rw [decide_eq_true (show ¬ S.bound (S.cn t k) (S.cn t ((k + 1) % 3)) from (by assumption))], rfl⟩
theorem c_areaOf {pre post : pW} {m : Nat} (hm : pre.length = m) (S : St) {t : Nat} (ht : t < 74) (hC : S.okC) : pRun 34 [.ref m, .int (iI (t : Int))] (pre ++ (mB m S ++ post)) (some (.int (iI (S.sd3 (S.cn t 0) (S.cn t 1) (S.cn t 2))))) (pre ++ (mB m S ++ post)) := by
  refine qx_run ?_
  refine pc_run (lv := [(0, .ref m), (1, .int (iI (t : Int)))]) rfl ?_
  refine pe_go (pc := 0) rfl (s_aload_n rfl) ?_
  refine pe_go (pc := 1) rfl (s_getf (v := .ref (m + 1)) (gA0 hm (mB_0 _ _ _)) rfl) ?_
  refine pe_go (pc := 4) rfl (s_aload_n rfl) ?_
  refine pe_go (pc := 5) rfl (s_iload_n rfl) ?_
  refine pe_go (pc := 6) rfl (s_iconst (z := 0) rfl) ?_
  refine pe_call rfl (s_invV rfl (gA0 hm (mB_0 _ _ _)) rfl rfl) (c_cornerOf hm S (t := t) (k := 0) (by omega) hC) ?_
  refine pe_go (pc := 10) rfl (s_aload_n rfl) ?_
  refine pe_go (pc := 11) rfl (s_iload_n rfl) ?_
  refine pe_go (pc := 12) rfl (s_iconst (z := 1) rfl) ?_
  refine pe_call rfl (s_invV rfl (gA0 hm (mB_0 _ _ _)) rfl rfl) (c_cornerOf hm S (t := t) (k := 1) (by omega) hC) ?_
  refine pe_go (pc := 16) rfl (s_aload_n rfl) ?_
  refine pe_go (pc := 17) rfl (s_iload_n rfl) ?_
  refine pe_go (pc := 18) rfl (s_iconst (z := 2) rfl) ?_
  refine pe_call rfl (s_invV rfl (gA0 hm (mB_0 _ _ _)) rfl rfl) (c_cornerOf hm S (t := t) (k := 2) (by omega) hC) ?_
  refine pe_call rfl (s_invV rfl (gA hm (mB_1 _ _ _)) rfl rfl) (c_side3 hm S (St.cn_lt hC (by omega)) (St.cn_lt hC (by omega)) (St.cn_lt hC (by omega))) ?_
  exact pe_ret rfl s_reti ⟨rfl, rfl⟩
theorem c_sideOf {pre post : pW} {m : Nat} (hm : pre.length = m) (S : St) {t k : Nat} (ht : t < 74) (hk : k < 3) {x y : Int} (hC : S.okC) : pRun 35 [.ref m, .int (iI (t : Int)), .int (iI (k : Int)), .int (iI x), .int (iI y)] (pre ++ (mB m S ++ post)) (some (.int (iI (S.sd (S.cn t k) (S.cn t ((k + 1) % 3)) x y)))) (pre ++ (mB m S ++ post)) := by
  refine qx_run ?_
  refine pc_run (lv := [(0, .ref m), (1, .int (iI (t : Int))), (2, .int (iI (k : Int))), (3, .int (iI x)), (4, .int (iI y))]) rfl ?_
  refine pe_go (pc := 0) rfl (s_aload_n rfl) ?_
  refine pe_go (pc := 1) rfl (s_getf (v := .ref (m + 1)) (gA0 hm (mB_0 _ _ _)) rfl) ?_
  refine pe_go (pc := 4) rfl (s_aload_n rfl) ?_
  refine pe_go (pc := 5) rfl (s_iload_n rfl) ?_
  refine pe_go (pc := 6) rfl (s_iload_n rfl) ?_
  refine pe_call rfl (s_invV rfl (gA0 hm (mB_0 _ _ _)) rfl rfl) (c_cornerOf hm S (t := t) (k := k) (by omega) hC) ?_
  refine pe_go (pc := 10) rfl (s_aload_n rfl) ?_
  refine pe_go (pc := 11) rfl (s_iload_n rfl) ?_
  refine pe_go (pc := 12) rfl (s_iload_n rfl) ?_
  refine pe_go (pc := 13) rfl (s_iconst (z := 1) rfl) ?_
  refine pe_go (pc := 14) rfl s_iadd ?_
  refine pe_go (pc := 15) rfl (s_iconst (z := 3) rfl) ?_
  refine pe_go (pc := 16) rfl (s_irem ⟨by omega, by omega⟩ ⟨by decide, by decide⟩ (by decide) (by omega) (by rw [Int.tmod_eq_emod_of_nonneg (by omega)] <;> omega)) ?_
  refine pe_call rfl (s_invV rfl (gA0 hm (mB_0 _ _ _)) rfl rfl) (c_cornerOf hm S (t := t) (k := ((k + 1) % 3)) (by omega) hC) ?_
  refine pe_go (pc := 20) rfl (s_iload_n rfl) ?_
  refine pe_go (pc := 21) rfl (s_iload rfl) ?_
  refine pe_call rfl (s_invV rfl (gA hm (mB_1 _ _ _)) rfl rfl) (c_side hm S (St.cn_lt hC (by omega)) (St.cn_lt hC (by omega))) ?_
  exact pe_ret rfl s_reti ⟨rfl, rfl⟩
theorem c_sideSquare {pre post : pW} {m : Nat} (hm : pre.length = m) (S : St) {t k : Nat} (ht : t < 74) (hk : k < 3) (hC : S.okC) : pRun 36 [.ref m, .int (iI (t : Int)), .int (iI (k : Int))] (pre ++ (mB m S ++ post)) (some (.int (iI (S.sq (S.cn t k) (S.cn t ((k + 1) % 3)))))) (pre ++ (mB m S ++ post)) := by
  refine qx_run ?_
  refine pc_run (lv := [(0, .ref m), (1, .int (iI (t : Int))), (2, .int (iI (k : Int)))]) rfl ?_
  refine pe_go (pc := 0) rfl (s_aload_n rfl) ?_
  refine pe_go (pc := 1) rfl (s_getf (v := .ref (m + 1)) (gA0 hm (mB_0 _ _ _)) rfl) ?_
  refine pe_go (pc := 4) rfl (s_aload_n rfl) ?_
  refine pe_go (pc := 5) rfl (s_iload_n rfl) ?_
  refine pe_go (pc := 6) rfl (s_iload_n rfl) ?_
  refine pe_call rfl (s_invV rfl (gA0 hm (mB_0 _ _ _)) rfl rfl) (c_cornerOf hm S (t := t) (k := k) (by omega) hC) ?_
  refine pe_go (pc := 10) rfl (s_aload_n rfl) ?_
  refine pe_go (pc := 11) rfl (s_iload_n rfl) ?_
  refine pe_go (pc := 12) rfl (s_iload_n rfl) ?_
  refine pe_go (pc := 13) rfl (s_iconst (z := 1) rfl) ?_
  refine pe_go (pc := 14) rfl s_iadd ?_
  refine pe_go (pc := 15) rfl (s_iconst (z := 3) rfl) ?_
  refine pe_go (pc := 16) rfl (s_irem ⟨by omega, by omega⟩ ⟨by decide, by decide⟩ (by decide) (by omega) (by rw [Int.tmod_eq_emod_of_nonneg (by omega)] <;> omega)) ?_
  refine pe_call rfl (s_invV rfl (gA0 hm (mB_0 _ _ _)) rfl rfl) (c_cornerOf hm S (t := t) (k := ((k + 1) % 3)) (by omega) hC) ?_
  refine pe_call rfl (s_invV rfl (gA hm (mB_1 _ _ _)) rfl rfl) (c_square hm S (St.cn_lt hC (by omega)) (St.cn_lt hC (by omega))) ?_
  exact pe_ret rfl s_reti ⟨rfl, rfl⟩
theorem c_holds {pre post : pW} {m : Nat} (hm : pre.length = m) (S : St) {t : Nat} (ht : t < 74) {x y : Int} (hq : inSq x y) (hC : S.okC) (h : S.inB) : pRun 37 [.ref m, .int (iI (t : Int)), .int (iI x), .int (iI y)] (pre ++ (mB m S ++ post)) (some (.int (bI (decide (S.hold t x y))))) (pre ++ (mB m S ++ post)) := by
  refine qx_run ?_
  refine pc_run (lv := [(0, .ref m), (1, .int (iI (t : Int))), (2, .int (iI x)), (3, .int (iI y))]) rfl ?_
  refine pe_go (pc := 0) rfl (s_aload_n rfl) ?_
  refine pe_go (pc := 1) rfl (s_iload_n rfl) ?_
  refine pe_go (pc := 2) rfl (s_iconst (z := 0) rfl) ?_
  refine pe_go (pc := 3) rfl (s_iload_n rfl) ?_
  refine pe_go (pc := 4) rfl (s_iload_n rfl) ?_
  refine pe_call rfl (s_invV rfl (gA0 hm (mB_0 _ _ _)) rfl rfl) (c_sideOf hm S ht (k := 0) (by decide) hC) ?_
  by_cases c1 : (S.sd (S.cn t 0) (S.cn t 1) x y) < 0
  · skip
    refine pe_go rfl (s_if_lt_t (St.sd_sm h (St.cn_lt hC (by omega)) (St.cn_lt hC (by omega)) hq) c1) ?_
    refine pe_go (pc := 37) rfl (s_iconst (z := 0) rfl) ?_
    exact pe_ret rfl s_ret0 ⟨by rw [decide_eq_false (show ¬ (S.hold t x y) from (by rintro ⟨z1, z2, z3⟩; omega))], rfl⟩
  · skip
    refine pe_go rfl (s_if_lt_f (St.sd_sm h (St.cn_lt hC (by omega)) (St.cn_lt hC (by omega)) hq) c1) ?_
    refine pe_go (pc := 11) rfl (s_aload_n rfl) ?_
    refine pe_go (pc := 12) rfl (s_iload_n rfl) ?_
    refine pe_go (pc := 13) rfl (s_iconst (z := 1) rfl) ?_
    refine pe_go (pc := 14) rfl (s_iload_n rfl) ?_
    refine pe_go (pc := 15) rfl (s_iload_n rfl) ?_
    refine pe_call rfl (s_invV rfl (gA0 hm (mB_0 _ _ _)) rfl rfl) (c_sideOf hm S ht (k := 1) (by decide) hC) ?_
    by_cases c2 : (S.sd (S.cn t 1) (S.cn t 2) x y) < 0
    · skip
      refine pe_go rfl (s_if_lt_t (St.sd_sm h (St.cn_lt hC (by omega)) (St.cn_lt hC (by omega)) hq) c2) ?_
      refine pe_go (pc := 37) rfl (s_iconst (z := 0) rfl) ?_
      exact pe_ret rfl s_ret0 ⟨by rw [decide_eq_false (show ¬ (S.hold t x y) from (by rintro ⟨z1, z2, z3⟩; omega))], rfl⟩
    · skip
      refine pe_go rfl (s_if_lt_f (St.sd_sm h (St.cn_lt hC (by omega)) (St.cn_lt hC (by omega)) hq) c2) ?_
      refine pe_go (pc := 22) rfl (s_aload_n rfl) ?_
      refine pe_go (pc := 23) rfl (s_iload_n rfl) ?_
      refine pe_go (pc := 24) rfl (s_iconst (z := 2) rfl) ?_
      refine pe_go (pc := 25) rfl (s_iload_n rfl) ?_
      refine pe_go (pc := 26) rfl (s_iload_n rfl) ?_
      refine pe_call rfl (s_invV rfl (gA0 hm (mB_0 _ _ _)) rfl rfl) (c_sideOf hm S ht (k := 2) (by decide) hC) ?_
      by_cases c3 : (S.sd (S.cn t 2) (S.cn t 0) x y) < 0
      · skip
        refine pe_go rfl (s_if_lt_t (St.sd_sm h (St.cn_lt hC (by omega)) (St.cn_lt hC (by omega)) hq) c3) ?_
        refine pe_go (pc := 37) rfl (s_iconst (z := 0) rfl) ?_
        exact pe_ret rfl s_ret0 ⟨by rw [decide_eq_false (show ¬ (S.hold t x y) from (by rintro ⟨z1, z2, z3⟩; omega))], rfl⟩
      · skip
        refine pe_go rfl (s_if_lt_f (St.sd_sm h (St.cn_lt hC (by omega)) (St.cn_lt hC (by omega)) hq) c3) ?_
        refine pe_go (pc := 33) rfl (s_iconst (z := 1) rfl) ?_
        refine pe_go (pc := 34) rfl s_goto ?_
        exact pe_ret rfl s_ret1 ⟨by rw [decide_eq_true (show S.hold t x y from ⟨by omega, by omega, by omega⟩)], rfl⟩
def St.wiF (S : St) (x y : Int) : Nat → Nat → Int
  | 0, _ => -1
  | n + 1, t => if S.hold t x y then (t : Int) else S.wiF x y n (t + 1)
theorem St.wiF_pos {S : St} {x y : Int} {n t : Nat} (hz : S.hold t x y) : S.wiF x y (n + 1) t = (t : Int) := if_pos hz
theorem St.wiF_neg {S : St} {x y : Int} {n t : Nat} (hz : ¬ S.hold t x y) : S.wiF x y (n + 1) t = S.wiF x y n (t + 1) := if_neg hz
theorem St.wiF_ge (S : St) (x y : Int) : ∀ (n t : Nat), (S.wiF x y n t = -1 ∧ ∀ q, t ≤ q → q < t + n → ¬ S.hold q x y) ∨ ∃ q : Nat, t ≤ q ∧ q < t + n ∧ S.wiF x y n t = (q : Int) ∧ S.hold q x y ∧ ∀ r, t ≤ r → r < q → ¬ S.hold r x y := by
  intro n
  induction n with
  | zero => intro t; exact Or.inl ⟨rfl, fun q h1 h2 => by omega⟩
  | succ n ih =>
    intro t
    by_cases c0 : S.hold t x y
    · exact Or.inr ⟨t, by omega, by omega, St.wiF_pos c0, c0, fun r g1 g2 => by omega⟩
    · rw [St.wiF_neg c0]
      rcases ih (t + 1) with ⟨h1, h2⟩ | ⟨q, h1, h2, h3, h4, h5⟩
      · refine Or.inl ⟨h1, fun q g1 g2 => ?_⟩
        rcases Nat.eq_or_lt_of_le g1 with g | g
        · subst g; exact c0
        · exact h2 q (by omega) (by omega)
      · refine Or.inr ⟨q, by omega, by omega, h3, h4, fun r g1 g2 => ?_⟩
        rcases Nat.eq_or_lt_of_le g1 with g | g
        · subst g; exact c0
        · exact h5 r (by omega) g2
theorem l_whereIn {pre post : pW} {m : Nat} (hm : pre.length = m) (S : St) {T : Nat} (hT : S.tn = (T : Int)) (hT2 : T ≤ 74) {x y : Int} (hq : inSq x y) (hC : S.okC) (h : S.inB) : ∀ (n t : Nat), t + n = T → qE 38 (2, [(3, .int (iI (t : Int))), (0, .ref m), (1, .int (iI x)), (2, .int (iI y))], [], (pre ++ (mB m S ++ post))) (fun r' w' => r' = (some (.int (iI (S.wiF x y n t)))) ∧ w' = (pre ++ (mB m S ++ post))) := by
  intro n
  induction n with
  | zero =>
    intro t htn
    refine pe_go (pc := 2) rfl (s_iload_n rfl) ?_
    refine pe_go (pc := 3) rfl (s_aload_n rfl) ?_
    refine pe_go (pc := 4) rfl (s_getf (v := .int (iI S.tn)) (gA0 hm (mB_0 _ _ _)) rfl) ?_
    refine pe_go rfl (s_icmp_ge_t ⟨by omega, by omega⟩ ⟨by omega, by omega⟩ (by omega)) ?_
    refine pe_go (pc := 36) rfl (s_iconst (z := -1) rfl) ?_
    exact pe_ret rfl s_reti ⟨rfl, rfl⟩
  | succ n ih =>
    intro t htn
    refine pe_go (pc := 2) rfl (s_iload_n rfl) ?_
    refine pe_go (pc := 3) rfl (s_aload_n rfl) ?_
    refine pe_go (pc := 4) rfl (s_getf (v := .int (iI S.tn)) (gA0 hm (mB_0 _ _ _)) rfl) ?_
    refine pe_go rfl (s_icmp_ge_f ⟨by omega, by omega⟩ ⟨by omega, by omega⟩ (by omega)) ?_
    refine pe_go (pc := 10) rfl (s_iload_n rfl) ?_
    refine pe_go (pc := 11) rfl (s_iload_n rfl) ?_
    refine pe_call rfl (s_invN rfl rfl rfl) (c_inSq (by have := hq; exact ⟨by omega, by omega⟩) (by have := hq; exact ⟨by omega, by omega⟩)) ?_
    refine pe_go rfl (s_ifeq_true (decide_eq_true hq)) ?_
    refine pe_go (pc := 18) rfl (s_aload_n rfl) ?_
    refine pe_go (pc := 19) rfl (s_iload_n rfl) ?_
    refine pe_go (pc := 20) rfl (s_iload_n rfl) ?_
    refine pe_go (pc := 21) rfl (s_iload_n rfl) ?_
    refine pe_call rfl (s_invV rfl (gA0 hm (mB_0 _ _ _)) rfl rfl) (c_holds hm S (by omega : t < 74) hq hC h) ?_
    by_cases b1 : S.hold t x y
    · skip
      refine pe_go rfl (s_ifeq_true (decide_eq_true b1)) ?_
      refine pe_go (pc := 28) rfl (s_iload_n rfl) ?_
      exact pe_ret rfl s_reti ⟨by rw [St.wiF_pos (by assumption)], rfl⟩
    · skip
      refine pe_go rfl (s_ifeq_false (decide_eq_false b1)) ?_
      refine pe_go (pc := 30) rfl (s_iinc (x := (t : Int)) (y := ((t + 1 : Nat) : Int)) rfl (by omega) (lv' := [(3, .int (iI ((t + 1 : Nat) : Int))), (0, .ref m), (1, .int (iI x)), (2, .int (iI y))]) rfl) ?_
      refine pe_go (pc := 33) rfl s_goto ?_
      rw [St.wiF_neg (by assumption)]
      exact ih (t + 1) (by omega)
theorem c_whereIn {pre post : pW} {m : Nat} (hm : pre.length = m) (S : St) {T : Nat} (hT : S.tn = (T : Int)) (hT2 : T ≤ 74) {x y : Int} (hq : inSq x y) (hC : S.okC) (h : S.inB) : pRun 38 [.ref m, .int (iI x), .int (iI y)] (pre ++ (mB m S ++ post)) (some (.int (iI (S.wiF x y T 0)))) (pre ++ (mB m S ++ post)) := by
  refine qx_run ?_
  refine pc_run (lv := [(0, .ref m), (1, .int (iI x)), (2, .int (iI y))]) rfl ?_
  refine pe_go (pc := 0) rfl (s_iconst (z := 0) rfl) ?_
  refine pe_go (pc := 1) rfl (s_istore_n (lv' := [(3, .int (iI 0)), (0, .ref m), (1, .int (iI x)), (2, .int (iI y))]) rfl) ?_
  exact l_whereIn hm S hT hT2 hq hC h T 0 (by omega)
theorem c_whereNo {pre post : pW} {m : Nat} (hm : pre.length = m) (S : St) {T : Nat} (hT : S.tn = (T : Int)) (hT2 : T ≤ 74) {x y : Int} (hx : sm x) (hy : sm y) (hq : ¬ inSq x y) : pRun 38 [.ref m, .int (iI x), .int (iI y)] (pre ++ (mB m S ++ post)) (some (.int (iI (-1)))) (pre ++ (mB m S ++ post)) := by
  refine qx_run ?_
  refine pc_run (lv := [(0, .ref m), (1, .int (iI x)), (2, .int (iI y))]) rfl ?_
  refine pe_go (pc := 0) rfl (s_iconst (z := 0) rfl) ?_
  refine pe_go (pc := 1) rfl (s_istore_n (lv' := [(3, .int (iI 0)), (0, .ref m), (1, .int (iI x)), (2, .int (iI y))]) rfl) ?_
  refine pe_go (pc := 2) rfl (s_iload_n rfl) ?_
  refine pe_go (pc := 3) rfl (s_aload_n rfl) ?_
  refine pe_go (pc := 4) rfl (s_getf (v := .int (iI S.tn)) (gA0 hm (mB_0 _ _ _)) rfl) ?_
  by_cases c1 : S.tn ≤ 0
  · skip
    refine pe_go rfl (s_icmp_ge_t ⟨by decide, by decide⟩ ⟨by omega, by omega⟩ c1) ?_
    refine pe_go (pc := 36) rfl (s_iconst (z := -1) rfl) ?_
    exact pe_ret rfl s_reti ⟨rfl, rfl⟩
  · skip
    refine pe_go rfl (s_icmp_ge_f ⟨by decide, by decide⟩ ⟨by omega, by omega⟩ c1) ?_
    refine pe_go (pc := 10) rfl (s_iload_n rfl) ?_
    refine pe_go (pc := 11) rfl (s_iload_n rfl) ?_
    refine pe_call rfl (s_invN rfl rfl rfl) (c_inSq hx hy) ?_
    refine pe_go rfl (s_ifeq_false (decide_eq_false hq)) ?_
    refine pe_go (pc := 36) rfl (s_iconst (z := -1) rfl) ?_
    exact pe_ret rfl s_reti ⟨rfl, rfl⟩
