/-! THE CLASS: an ear cut off a round. Rows laid by program (wip/p63/wk.py, mk39e.py). -/
theorem St.u_rd_self (S : St) : S.u_rd S.rd = S := rfl
/-- a round without its corner k -/
def shf (f : Nat → Int) (k n i : Nat) : Int := if k ≤ i ∧ i + 1 < n then f (i + 1) else f i
def shW (pre post : pW) (m : Nat) (S : St) (k n : Nat) (r : Option Value) (w' : pW) : Prop := r = none ∧ ∃ rd : Nat → Int, (∀ i : Nat, rd i = shf S.rd k n i) ∧ w' = pre ++ (mB m (S.u_rd rd) ++ post)
def cutW (pre post : pW) (m : Nat) (S : St) (n : Nat) (r : Option Value) (w' : pW) : Prop := r = none ∧ ((∃ k : Nat, ∃ rd : Nat → Int, k < n ∧ S.earAt k n ∧ (∀ i : Nat, rd i = shf S.rd k n i) ∧ w' = pre ++ (mB m ((S.put (S.rr ((k + n - 1) % n)) (S.rr k) (S.rr ((k + 1) % n))).u_rd rd) ++ post)) ∨ ((∀ k : Nat, k < n → ¬ S.earAt k n) ∧ w' = pre ++ (mB m S ++ post)))
theorem l_shift {pre post : pW} {m : Nat} (hm : pre.length = m) (S : St) {k n : Nat} (hk : k < n) (hn : n ≤ 40) : ∀ (d j : Nat) (rd : Nat → Int), j + d + 1 = n → k ≤ j → (∀ i : Nat, rd i = if k ≤ i ∧ i < j then S.rd (i + 1) else S.rd i) → qE 8 (50, [(3, .int (iI (j : Int))), (2, .int (iI (k : Int))), (0, .ref m), (1, .int (iI (n : Int)))], [], pre ++ (mB m (S.u_rd rd) ++ post)) (shW pre post m S k n) := by
  intro d
  induction d with
  | zero =>
    intro j rd hj hkj hrd
    refine pe_go (pc := 50) rfl (s_iload_n rfl) ?_
    refine pe_go (pc := 51) rfl (s_iconst (z := 1) rfl) ?_
    refine pe_go (pc := 52) rfl s_iadd ?_
    refine pe_go (pc := 53) rfl (s_iload_n rfl) ?_
    refine pe_go rfl (s_icmp_ge_t ⟨by omega, by omega⟩ ⟨by omega, by omega⟩ (by omega)) ?_
    refine pe_ret rfl s_retv ⟨rfl, rd, fun i => ?_, rfl⟩
    rw [hrd i]
    unfold shf
    by_cases c9 : k ≤ i ∧ i < j
    · rw [if_pos c9, if_pos (by omega)]
    · rw [if_neg c9, if_neg (by omega)]
  | succ d ih =>
    intro j rd hj hkj hrd
    refine pe_go (pc := 50) rfl (s_iload_n rfl) ?_
    refine pe_go (pc := 51) rfl (s_iconst (z := 1) rfl) ?_
    refine pe_go (pc := 52) rfl s_iadd ?_
    refine pe_go (pc := 53) rfl (s_iload_n rfl) ?_
    refine pe_go rfl (s_icmp_ge_f ⟨by omega, by omega⟩ ⟨by omega, by omega⟩ (by omega)) ?_
    refine pe_go (pc := 57) rfl (s_aload_n rfl) ?_
    refine pe_go (pc := 58) rfl (s_getf (v := .ref (m + 13)) (gA0 hm (mB_0 _ _ _)) rfl) ?_
    refine pe_go (pc := 61) rfl (s_iload_n rfl) ?_
    refine pe_go (pc := 62) rfl (s_aload_n rfl) ?_
    refine pe_go (pc := 63) rfl (s_getf (v := .ref (m + 13)) (gA0 hm (mB_0 _ _ _)) rfl) ?_
    refine pe_go (pc := 66) rfl (s_iload_n rfl) ?_
    refine pe_go (pc := 67) rfl (s_iconst (z := 1) rfl) ?_
    refine pe_go (pc := 68) rfl s_iadd ?_
    refine pe_go (pc := 69) rfl (s_iald (n := 40) (f := rd) (v := rd (j + 1)) (gA hm (mB_rd _ _ _)) (k := j + 1) (by omega) (by omega) (by decide) rfl) ?_
    refine pe_go (pc := 70) rfl (s_iast (n := 40) (f := rd) (w' := pre ++ (mB m (S.u_rd (uZ rd j (rd (j + 1)))) ++ post)) (gA hm (mB_rd _ _ _)) (k := j) (by omega) (by omega) (by decide) (gS hm (mB_s_rd _ _ _ _))) ?_
    refine pe_go (pc := 71) rfl (s_iinc (x := (j : Int)) (y := ((j + 1 : Nat) : Int)) rfl (by omega) (lv' := [(3, .int (iI ((j + 1 : Nat) : Int))), (2, .int (iI (k : Int))), (0, .ref m), (1, .int (iI (n : Int)))]) rfl) ?_
    refine pe_go (pc := 74) rfl s_goto ?_
    refine pe_few (lv := [(3, .int (iI ((j + 1 : Nat) : Int))), (2, .int (iI (k : Int))), (0, .ref m), (1, .int (iI (n : Int)))]) rfl rfl (by intro q hq; simp only [List.mem_cons, List.not_mem_nil, or_false] at hq; rcases hq with rfl | rfl | rfl | rfl <;> rfl) ?_
    refine ih (j + 1) (uZ rd j (rd (j + 1))) (by omega) (by omega) (fun i => ?_)
    by_cases g : i = j
    · subst g
      rw [uZ_at, hrd (i + 1), if_neg (by omega), if_pos (by omega)]
    · rw [uZ_ne g, hrd i]
      by_cases c9 : k ≤ i ∧ i < j
      · rw [if_pos c9, if_pos (by omega)]
      · rw [if_neg c9, if_neg (by omega)]
theorem l_cut {pre post : pW} {m : Nat} (hm : pre.length = m) (S : St) {n : Nat} (hn : n ≤ 40) (hR : S.okR) (h : S.wI) : ∀ (d k : Nat), k + d = n → (∀ q : Nat, q < k → ¬ S.earAt q n) → qE 8 (2, [(2, .int (iI (k : Int))), (0, .ref m), (1, .int (iI (n : Int)))], [], (pre ++ (mB m S ++ post))) (cutW pre post m S n) := by
  intro d
  induction d with
  | zero =>
    intro k hk hP
    refine pe_go (pc := 2) rfl (s_iload_n rfl) ?_
    refine pe_go (pc := 3) rfl (s_iload_n rfl) ?_
    refine pe_go rfl (s_icmp_ge_t ⟨by omega, by omega⟩ ⟨by omega, by omega⟩ (by omega)) ?_
    exact pe_ret rfl s_retv ⟨rfl, Or.inr ⟨fun q hq => hP q (by omega), rfl⟩⟩
  | succ d ih =>
    intro k hk hP
    have hi0 : (k + n - 1) % n < n := Nat.mod_lt _ (by omega)
    have hi2 : (k + 1) % n < n := Nat.mod_lt _ (by omega)
    obtain ⟨i0, he0⟩ : ∃ i : Nat, (k + n - 1) % n = i := ⟨_, rfl⟩
    obtain ⟨i2, he2⟩ : ∃ i : Nat, (k + 1) % n = i := ⟨_, rfl⟩
    rw [he0] at hi0
    rw [he2] at hi2
    refine pe_go (pc := 2) rfl (s_iload_n rfl) ?_
    refine pe_go (pc := 3) rfl (s_iload_n rfl) ?_
    refine pe_go rfl (s_icmp_ge_f ⟨by omega, by omega⟩ ⟨by omega, by omega⟩ (by omega)) ?_
    refine pe_go (pc := 7) rfl (s_aload_n rfl) ?_
    refine pe_go (pc := 8) rfl (s_iload_n rfl) ?_
    refine pe_go (pc := 9) rfl (s_iload_n rfl) ?_
    refine pe_call rfl (s_invV rfl (gA0 hm (mB_0 _ _ _)) rfl rfl) (c_isEar hm S (show k < n by omega) hn hR h.B) ?_
    by_cases b1 : S.earAt k n
    · skip
      refine pe_go rfl (s_ifeq_true (decide_eq_true b1)) ?_
      refine pe_go (pc := 16) rfl (s_aload_n rfl) ?_
      refine pe_go (pc := 17) rfl (s_aload_n rfl) ?_
      refine pe_go (pc := 18) rfl (s_getf (v := .ref (m + 13)) (gA0 hm (mB_0 _ _ _)) rfl) ?_
      refine pe_go (pc := 21) rfl (s_iload_n rfl) ?_
      refine pe_go (pc := 22) rfl (s_iload_n rfl) ?_
      refine pe_go (pc := 23) rfl s_iadd ?_
      refine pe_go (pc := 24) rfl (s_iconst (z := 1) rfl) ?_
      refine pe_go (pc := 25) rfl s_isub ?_
      refine pe_go (pc := 26) rfl (s_iload_n rfl) ?_
      refine pe_go (pc := 27) rfl (s_irem ⟨by omega, by omega⟩ ⟨by omega, by omega⟩ (by omega) (by omega) (nmod he0 (by omega))) ?_
      refine pe_go (pc := 28) rfl (s_iald (n := 40) (f := S.rd) (v := ((S.rr i0 : Nat) : Int)) (gA hm (mB_rd _ _ _)) (k := i0) (by omega) (by omega) (by decide) (St.rr_eq hR (by omega))) ?_
      refine pe_go (pc := 29) rfl (s_aload_n rfl) ?_
      refine pe_go (pc := 30) rfl (s_getf (v := .ref (m + 13)) (gA0 hm (mB_0 _ _ _)) rfl) ?_
      refine pe_go (pc := 33) rfl (s_iload_n rfl) ?_
      refine pe_go (pc := 34) rfl (s_iald (n := 40) (f := S.rd) (v := ((S.rr k : Nat) : Int)) (gA hm (mB_rd _ _ _)) (k := k) (by omega) (by omega) (by decide) (St.rr_eq hR (by omega))) ?_
      refine pe_go (pc := 35) rfl (s_aload_n rfl) ?_
      refine pe_go (pc := 36) rfl (s_getf (v := .ref (m + 13)) (gA0 hm (mB_0 _ _ _)) rfl) ?_
      refine pe_go (pc := 39) rfl (s_iload_n rfl) ?_
      refine pe_go (pc := 40) rfl (s_iconst (z := 1) rfl) ?_
      refine pe_go (pc := 41) rfl s_iadd ?_
      refine pe_go (pc := 42) rfl (s_iload_n rfl) ?_
      refine pe_go (pc := 43) rfl (s_irem ⟨by omega, by omega⟩ ⟨by omega, by omega⟩ (by omega) (by omega) (nmod he2 (by omega))) ?_
      refine pe_go (pc := 44) rfl (s_iald (n := 40) (f := S.rd) (v := ((S.rr i2 : Nat) : Int)) (gA hm (mB_rd _ _ _)) (k := i2) (by omega) (by omega) (by decide) (St.rr_eq hR (by omega))) ?_
      refine pe_call rfl (s_invV rfl (gA0 hm (mB_0 _ _ _)) rfl rfl) (c_put hm S (St.rr_lt hR (show i0 < 40 by omega)) (St.rr_lt hR (show k < 40 by omega)) (St.rr_lt hR (show i2 < 40 by omega)) h.Q) ?_
      refine pe_go (pc := 48) rfl (s_iload_n rfl) ?_
      refine pe_go (pc := 49) rfl (s_istore_n (lv' := [(3, .int (iI (k : Int))), (2, .int (iI (k : Int))), (0, .ref m), (1, .int (iI (n : Int)))]) rfl) ?_
      refine pe_few (lv := [(3, .int (iI (k : Int))), (2, .int (iI (k : Int))), (0, .ref m), (1, .int (iI (n : Int)))]) rfl rfl (by intro q hq; simp only [List.mem_cons, List.not_mem_nil, or_false] at hq; rcases hq with rfl | rfl | rfl | rfl <;> rfl) ?_
      have h9 := l_shift hm (S.put (S.rr i0) (S.rr k) (S.rr i2)) (post := post) (show k < n by omega) hn (n - k - 1) k (S.put (S.rr i0) (S.rr k) (S.rr i2)).rd (by omega) (Nat.le_refl _) (fun i => by rw [if_neg (by omega)])
      rw [St.u_rd_self] at h9
      refine pe_mono ?_ h9
      rintro r9 w9 ⟨hr, rd, hrd, hw⟩
      refine ⟨hr, Or.inl ⟨k, rd, by omega, by assumption, fun i => ?_, ?_⟩⟩
      · rw [hrd i, St.put_rd]
      · rw [he0, he2]
        exact hw
    · skip
      refine pe_go rfl (s_ifeq_false (decide_eq_false b1)) ?_
      refine pe_go (pc := 78) rfl (s_iinc (x := (k : Int)) (y := ((k + 1 : Nat) : Int)) rfl (by omega) (lv' := [(2, .int (iI ((k + 1 : Nat) : Int))), (0, .ref m), (1, .int (iI (n : Int)))]) rfl) ?_
      refine pe_go (pc := 81) rfl s_goto ?_
      refine pe_few (lv := [(2, .int (iI ((k + 1 : Nat) : Int))), (0, .ref m), (1, .int (iI (n : Int)))]) rfl rfl (by intro q hq; simp only [List.mem_cons, List.not_mem_nil, or_false] at hq; rcases hq with rfl | rfl | rfl <;> rfl) ?_
      refine ih (k + 1) (by omega) (fun q hq => ?_)
      by_cases g : q = k
      · subst g
        assumption
      · exact hP q (by omega)
theorem c_cutEar {pre post : pW} {m : Nat} (hm : pre.length = m) (S : St) {n : Nat} (hn : n ≤ 40) (hR : S.okR) (h : S.wI) : qC 8 [.ref m, .int (iI (n : Int))] (pre ++ (mB m S ++ post)) (cutW pre post m S n) := by
  refine pc_run (lv := [(0, .ref m), (1, .int (iI (n : Int)))]) rfl ?_
  refine pe_go (pc := 0) rfl (s_iconst (z := 0) rfl) ?_
  refine pe_go (pc := 1) rfl (s_istore_n (lv' := [(2, .int (iI 0)), (0, .ref m), (1, .int (iI (n : Int)))]) rfl) ?_
  refine pe_few (lv := [(2, .int (iI ((0 : Nat) : Int))), (0, .ref m), (1, .int (iI (n : Int)))]) rfl rfl (by intro q hq; simp only [List.mem_cons, List.not_mem_nil, or_false] at hq; rcases hq with rfl | rfl | rfl <;> rfl) ?_
  exact l_cut hm S hn hR h n 0 (by omega) (fun q hq => by omega)
