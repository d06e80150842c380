/-! THE LAW'S SMALL METHODS: a quotient downward, a number picked, the larger of two longs. By hand. -/
def zmaxL (x y : Int) : Int := if x < y then y else x
theorem c_maxL {w : pW} {x y : Int} (hx : sl x) (hy : sl y) : pRun 141 [.long (lI x), .long (lI y)] w (some (.long (lI (zmaxL x y)))) w := by
  refine qx_run ?_
  refine pc_run (lv := [(0, .long (lI x)), (2, .long (lI y))]) rfl ?_
  refine pe_go (pc := 0) rfl (s_lload_n rfl) ?_
  refine pe_go (pc := 1) rfl (s_lload_n rfl) ?_
  rcases Int.lt_trichotomy x y with c | c | c
  · refine pe_go (pc := 2) rfl (s_lcmp_lt hx hy c) ?_
    refine pe_go (pc := 3) rfl (s_if_lt_t ⟨by decide, by decide⟩ (by decide)) ?_
    refine pe_go (pc := 10) rfl (s_lload_n rfl) ?_
    exact pe_ret rfl s_retl ⟨by unfold zmaxL; rw [if_pos c], rfl⟩
  · refine pe_go (pc := 2) rfl (s_lcmp_eq c) ?_
    refine pe_go (pc := 3) rfl (s_if_lt_f ⟨by decide, by decide⟩ (by decide)) ?_
    refine pe_go (pc := 6) rfl (s_lload_n rfl) ?_
    refine pe_go (pc := 7) rfl s_goto ?_
    exact pe_ret rfl s_retl ⟨by unfold zmaxL; rw [if_neg (by omega)], rfl⟩
  · refine pe_go (pc := 2) rfl (s_lcmp_gt hx hy c) ?_
    refine pe_go (pc := 3) rfl (s_if_lt_f ⟨by decide, by decide⟩ (by decide)) ?_
    refine pe_go (pc := 6) rfl (s_lload_n rfl) ?_
    refine pe_go (pc := 7) rfl s_goto ?_
    exact pe_ret rfl s_retl ⟨by unfold zmaxL; rw [if_neg (by omega)], rfl⟩
theorem down_mod {v n : Int} (hn : 0 < n) : (v.tmod n + n).tmod n = v % n := by
  have h1 := Int.lt_tmod_of_pos v hn
  rw [Int.tmod_eq_emod_of_nonneg (by omega)]
  have h2 := Int.mul_tdiv_add_tmod v n
  have e : v.tmod n + n = v + (1 - v.tdiv n) * n := by
    rw [Int.sub_mul, Int.one_mul, Int.mul_comm (v.tdiv n) n]
    omega
  rw [e, Int.add_mul_emod_self_right]
theorem down_div {v n : Int} (hn : 0 < n) : (v - v % n).tdiv n = v / n := by
  have h := Int.emod_add_mul_ediv v n
  have e : v - v % n = n * (v / n) := by omega
  rw [e, Int.mul_tdiv_cancel_left _ (by omega)]
theorem w_down {w : pW} {v n : Int} (hv : -1000000000 ≤ v ∧ v ≤ 1000000000) (hn : 0 < n) (hn2 : n ≤ 1000) : pRun 155 [.int (iI v), .int (iI n)] w (some (.int (iI (v / n)))) w := by
  have h1 := Int.lt_tmod_of_pos v hn
  have h2 := Int.tmod_lt_of_pos v hn
  have h3 := Int.emod_nonneg v (show n ≠ 0 by omega)
  have h4 := Int.emod_lt_of_pos v hn
  refine qx_run ?_
  refine pc_run (lv := [(0, .int (iI v)), (1, .int (iI n))]) rfl ?_
  refine pe_go (pc := 0) rfl (s_iload_n rfl) ?_
  refine pe_go (pc := 1) rfl (s_iload_n rfl) ?_
  refine pe_go (pc := 2) rfl (s_iload_n rfl) ?_
  refine pe_go (pc := 3) rfl (s_irem ⟨by omega, by omega⟩ ⟨by omega, by omega⟩ (by omega) (by omega) rfl) ?_
  refine pe_go (pc := 4) rfl (s_iload_n rfl) ?_
  refine pe_go (pc := 5) rfl s_iadd ?_
  refine pe_go (pc := 6) rfl (s_iload_n rfl) ?_
  refine pe_go (pc := 7) rfl (s_irem ⟨by omega, by omega⟩ ⟨by omega, by omega⟩ (by omega) (by omega) (down_mod hn)) ?_
  refine pe_go (pc := 8) rfl s_isub ?_
  refine pe_go (pc := 9) rfl (s_iload_n rfl) ?_
  refine pe_go (pc := 10) rfl (s_idiv ⟨by omega, by omega⟩ ⟨by omega, by omega⟩ (by omega) (by omega) (down_div hn)) ?_
  exact pe_ret rfl s_reti ⟨rfl, rfl⟩
/-- any int with its highest bit taken away is a whole number from 0 on -/
theorem low31 (x : Int32) : ∃ z : Int, 0 ≤ z ∧ z < 2147483648 ∧ x &&& iI 2147483647 = iI z := by
  refine ⟨((x.toBitVec.toNat % 2147483648 : Nat) : Int), by omega, by omega, ?_⟩
  apply Int32.toBitVec.inj
  show x.toBitVec &&& BitVec.ofInt 32 2147483647 = BitVec.ofInt 32 ((x.toBitVec.toNat % 2147483648 : Nat) : Int)
  rw [BitVec.ofInt_natCast]
  apply BitVec.eq_of_toNat_eq
  rw [BitVec.toNat_and, BitVec.toNat_ofNat]
  show x.toBitVec.toNat &&& 2147483647 = _
  rw [show (2147483647 : Nat) = 2 ^ 31 - 1 from rfl, Nat.and_two_pow_sub_one_eq_mod]
  omega
/-- the script -/
abbrev cS (n : Nat) (f : Nat → Int) : pCell := .inl (6, n, .inl (fun j => iI (f j)))
theorem w_pick {w : pW} {a n : Nat} {sc : Nat → Int} (hs : w[a]? = some (cS n sc)) (hsc : (∀ j : Nat, sm (sc j)) ∧ a = 0) (hn : n ≤ 260) {k : Nat} (hk : k < 100) : qC 145 [.ref a, .int (iI (k : Int))] w (fun r w' => w' = w ∧ ∃ z : Int, 0 ≤ z ∧ z < 2147483648 ∧ r = some (.int (iI z))) := by
  refine pc_run (lv := [(0, .ref a), (1, .int (iI (k : Int)))]) rfl ?_
  refine pe_go (pc := 0) rfl (s_aload_n rfl) ?_
  refine pe_go (pc := 1) rfl (s_alen6 (n := n) hs rfl hsc.2) ?_
  by_cases c : n = 0
  · refine pe_go (pc := 2) rfl (s_if_ne_f ⟨by omega, by omega⟩ (fun z => z (by omega))) ?_
    refine pe_go (pc := 5) rfl (s_iconst (z := 0) rfl) ?_
    refine pe_go (pc := 6) rfl s_goto ?_
    exact pe_ret rfl s_reti ⟨rfl, 0, by decide, by decide, rfl⟩
  · refine pe_go (pc := 2) rfl (s_if_ne_t ⟨by omega, by omega⟩ (by omega)) ?_
    have e1 : (k : Int).tmod (n : Int) = ((k % n : Nat) : Int) := by rw [Int.tmod_eq_emod_of_nonneg (by omega)]; rfl
    have e2 : (k : Int).tdiv (n : Int) = ((k / n : Nat) : Int) := by rw [Int.tdiv_eq_ediv_of_nonneg (by omega)]; rfl
    have hkn : k % n < n := Nat.mod_lt _ (by omega)
    have hkd : k / n ≤ k := Nat.div_le_self _ _
    obtain ⟨kd, ekd⟩ : ∃ kd : Nat, kd = k / n := ⟨_, rfl⟩
    rw [← ekd] at e2 hkd
    refine pe_go (pc := 9) rfl (s_aload_n rfl) ?_
    refine pe_go (pc := 10) rfl (s_iload_n rfl) ?_
    refine pe_go (pc := 11) rfl (s_aload_n rfl) ?_
    refine pe_go (pc := 12) rfl (s_alen6 (n := n) hs rfl hsc.2) ?_
    refine pe_go (pc := 13) rfl (s_irem ⟨by omega, by omega⟩ ⟨by omega, by omega⟩ (by omega) (by omega) e1) ?_
    refine pe_go (pc := 14) rfl (s_iald6 (f := sc) (v := sc (k % n)) hs hsc.2 rfl hkn (by omega) rfl) ?_
    refine pe_go (pc := 15) rfl (s_iload_n rfl) ?_
    refine pe_go (pc := 16) rfl (s_aload_n rfl) ?_
    refine pe_go (pc := 17) rfl (s_alen6 (n := n) hs rfl hsc.2) ?_
    refine pe_go (pc := 18) rfl (s_idiv ⟨by omega, by omega⟩ ⟨by omega, by omega⟩ (by omega) (by omega) e2) ?_
    refine pe_go (pc := 19) rfl (s_bipush (z := 8) rfl) ?_
    refine pe_go (pc := 21) rfl (s_irem ⟨by omega, by omega⟩ ⟨by decide, by decide⟩ (by decide) (by omega) rfl) ?_
    refine pe_go (pc := 22) rfl s_ishr ?_
    refine pe_go (pc := 23) rfl (s_ldc (z := 2147483647) rfl) ?_
    refine pe_go (pc := 25) rfl s_iand ?_
    obtain ⟨z, z1, z2, z3⟩ := low31 (iI (sc (k % n)) >>> (iI ((kd : Int).tmod 8) &&& 31))
    rw [z3]
    exact pe_ret rfl s_reti ⟨rfl, z, z1, z2, rfl⟩
