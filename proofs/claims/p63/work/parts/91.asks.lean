/-! THE LAW'S SHEETS: the first at a place, the least that is free, who may go, who sees whom. Rows laid by program (wip/p63/wk.py, hw.py, mk91.py). -/
def Sh.isAt (X : Sh) (k : Nat) (x y : Int) : Prop := ∃ z : Int, X.1 k = some (x, y, z)
theorem Sh.isAt_n {X : Sh} {k : Nat} {x y : Int} (h : X.1 k = none) : ¬ X.isAt k x y := fun ⟨z, hz⟩ => by rw [h] at hz; cases hz
theorem Sh.isAt_s {X : Sh} {k : Nat} {x y x1 y1 z1 : Int} (h : X.1 k = some (x1, y1, z1)) : X.isAt k x y ↔ x1 = x ∧ y1 = y := by
  constructor
  · rintro ⟨z, hz⟩
    rw [h] at hz
    cases hz
    exact ⟨rfl, rfl⟩
  · rintro ⟨rfl, rfl⟩
    exact ⟨z1, h⟩
noncomputable def Sh.atF (X : Sh) (x y : Int) : Nat → Nat → Int
  | 0, _ => -1
  | n + 1, k => @ite Int (X.isAt k x y) (Classical.propDecidable _) (k : Int) (Sh.atF X x y n (k + 1))
theorem Sh.atF_y {X : Sh} {x y : Int} {n k : Nat} (h : X.isAt k x y) : X.atF x y (n + 1) k = (k : Int) := if_pos h
theorem Sh.atF_n {X : Sh} {x y : Int} {n k : Nat} (h : ¬ X.isAt k x y) : X.atF x y (n + 1) k = X.atF x y n (k + 1) := if_neg h
noncomputable def Sh.at (X : Sh) (x y : Int) : Int := X.atF x y 40 0
def Sh.frF (X : Sh) : Nat → Nat → Int
  | 0, _ => -1
  | n + 1, k => match X.1 k with
    | none => (k : Int)
    | some _ => Sh.frF X n (k + 1)
theorem Sh.frF_n {X : Sh} {n k : Nat} (h : X.1 k = none) : X.frF (n + 1) k = (k : Int) := by
  show (match X.1 k with | none => (k : Int) | some _ => Sh.frF X n (k + 1)) = _
  rw [h]
theorem Sh.frF_s {X : Sh} {n k : Nat} {q : Int × Int × Int} (h : X.1 k = some q) : X.frF (n + 1) k = X.frF n (k + 1) := by
  show (match X.1 k with | none => (k : Int) | some _ => Sh.frF X n (k + 1)) = _
  rw [h]
def Sh.free (X : Sh) : Int := X.frF 36 4
theorem l_at {w : pW} {O Q : Nat → Prop} {a : Nat} {X : Sh} {pa fa ha : Nat} {pf gf hf : Nat → Option Nat} {ff : Nat → Nat} (hS : shP w O Q a X pa fa ha pf gf hf ff) (hX9 : ∀ (k : Nat) (x y z : Int), k < 40 → X.1 k = some (x, y, z) → inSq x y ∧ -9999 ≤ z ∧ z ≤ 9999) {x y : Int} (hx : sm x) (hy : sm y) : ∀ (n k : Nat), k + n = 40 → qE 126 (2, [(3, .int (iI (k : Int))), (0, .ref a), (1, .int (iI x)), (2, .int (iI y))], [], w) (fun r' w' => r' = some (.int (iI (X.atF x y n k))) ∧ w' = w) := by
  obtain ⟨hb, h0, h1, h2, h3, h4, h5, h6, h7, h8, h9⟩ := hS
  intro n
  induction n with
  | zero =>
    intro k hk
    refine pe_go (pc := 2) rfl (s_iload_n rfl) ?_
    refine pe_go (pc := 3) rfl (s_bipush (z := 40) rfl) ?_
    refine pe_go rfl (s_icmp_ge_t ⟨by omega, by omega⟩ ⟨by decide, by decide⟩ (by omega)) ?_
    refine pe_go (pc := 49) rfl (s_iconst (z := -1) rfl) ?_
    exact pe_ret rfl s_reti ⟨rfl, rfl⟩
  | succ n ih =>
    intro k hk
    rcases hX : X.1 k with _ | ⟨x1, y1, z1⟩
    · have e1 := h2 k (by omega) hX
      refine pe_go (pc := 2) rfl (s_iload_n rfl) ?_
      refine pe_go (pc := 3) rfl (s_bipush (z := 40) rfl) ?_
      refine pe_go rfl (s_icmp_ge_f ⟨by omega, by omega⟩ ⟨by decide, by decide⟩ (by omega)) ?_
      refine pe_go (pc := 8) rfl (s_aload_n rfl) ?_
      refine pe_go (pc := 9) rfl (s_getf (v := .ref pa) h0 rfl) ?_
      refine pe_go (pc := 12) rfl (s_iload_n rfl) ?_
      refine pe_go (pc := 13) rfl (s_aaldN h1 (k := k) (by omega) (by omega) e1) ?_
      refine pe_go (pc := 14) rfl s_ifnull_t ?_
      refine pe_go (pc := 43) rfl (s_iinc (x := (k : Int)) (y := ((k + 1 : Nat) : Int)) rfl (by omega) (lv' := [(3, .int (iI ((k + 1 : Nat) : Int))), (0, .ref a), (1, .int (iI x)), (2, .int (iI y))]) rfl) ?_
      refine pe_go (pc := 46) rfl s_goto ?_
      rw [Sh.atF_n (Sh.isAt_n hX)]
      refine pe_few (lv := [(3, .int (iI ((k + 1 : Nat) : Int))), (0, .ref a), (1, .int (iI x)), (2, .int (iI y))]) rfl rfl (by intro q hq; simp only [List.mem_cons, List.not_mem_nil, or_false] at hq; rcases hq with rfl | rfl | rfl | rfl <;> rfl) ?_
      exact ih (k + 1) (by omega)
    · obtain ⟨r, e1, -, hr⟩ := h3 k x1 y1 z1 (by omega) hX
      obtain ⟨hq1, hq2⟩ := hX9 k x1 y1 z1 (by omega) hX
      refine pe_go (pc := 2) rfl (s_iload_n rfl) ?_
      refine pe_go (pc := 3) rfl (s_bipush (z := 40) rfl) ?_
      refine pe_go rfl (s_icmp_ge_f ⟨by omega, by omega⟩ ⟨by decide, by decide⟩ (by omega)) ?_
      refine pe_go (pc := 8) rfl (s_aload_n rfl) ?_
      refine pe_go (pc := 9) rfl (s_getf (v := .ref pa) h0 rfl) ?_
      refine pe_go (pc := 12) rfl (s_iload_n rfl) ?_
      refine pe_go (pc := 13) rfl (s_aald h1 (k := k) (by omega) (by omega) e1) ?_
      refine pe_go (pc := 14) rfl s_ifnull_f ?_
      refine pe_go (pc := 17) rfl (s_aload_n rfl) ?_
      refine pe_go (pc := 18) rfl (s_getf (v := .ref pa) h0 rfl) ?_
      refine pe_go (pc := 21) rfl (s_iload_n rfl) ?_
      refine pe_go (pc := 22) rfl (s_aald h1 (k := k) (by omega) (by omega) e1) ?_
      refine pe_go (pc := 23) rfl (s_iconst (z := 0) rfl) ?_
      refine pe_go (pc := 24) rfl (s_iald (n := 3) (f := row3 x1 y1 z1) (v := x1) hr (k := 0) (by omega) (by omega) (by decide) rfl) ?_
      refine pe_go (pc := 25) rfl (s_iload_n rfl) ?_
      by_cases c1 : x1 = x
      · skip
        refine pe_go rfl (s_icmp_ne_f ⟨by omega, by omega⟩ ⟨by omega, by omega⟩ (fun e => e c1)) ?_
        refine pe_go (pc := 29) rfl (s_aload_n rfl) ?_
        refine pe_go (pc := 30) rfl (s_getf (v := .ref pa) h0 rfl) ?_
        refine pe_go (pc := 33) rfl (s_iload_n rfl) ?_
        refine pe_go (pc := 34) rfl (s_aald h1 (k := k) (by omega) (by omega) e1) ?_
        refine pe_go (pc := 35) rfl (s_iconst (z := 1) rfl) ?_
        refine pe_go (pc := 36) rfl (s_iald (n := 3) (f := row3 x1 y1 z1) (v := y1) hr (k := 1) (by omega) (by omega) (by decide) rfl) ?_
        refine pe_go (pc := 37) rfl (s_iload_n rfl) ?_
        by_cases c2 : y1 = y
        · skip
          refine pe_go rfl (s_icmp_ne_f ⟨by omega, by omega⟩ ⟨by omega, by omega⟩ (fun e => e c2)) ?_
          refine pe_go (pc := 41) rfl (s_iload_n rfl) ?_
          exact pe_ret rfl s_reti ⟨by rw [Sh.atF_y ((Sh.isAt_s hX).mpr ⟨by omega, by omega⟩)], rfl⟩
        · skip
          refine pe_go rfl (s_icmp_ne_t ⟨by omega, by omega⟩ ⟨by omega, by omega⟩ c2) ?_
          refine pe_go (pc := 43) rfl (s_iinc (x := (k : Int)) (y := ((k + 1 : Nat) : Int)) rfl (by omega) (lv' := [(3, .int (iI ((k + 1 : Nat) : Int))), (0, .ref a), (1, .int (iI x)), (2, .int (iI y))]) rfl) ?_
          refine pe_go (pc := 46) rfl s_goto ?_
          rw [Sh.atF_n (fun z => by have := (Sh.isAt_s hX).mp z; omega)]
          refine pe_few (lv := [(3, .int (iI ((k + 1 : Nat) : Int))), (0, .ref a), (1, .int (iI x)), (2, .int (iI y))]) rfl rfl (by intro q hq; simp only [List.mem_cons, List.not_mem_nil, or_false] at hq; rcases hq with rfl | rfl | rfl | rfl <;> rfl) ?_
          exact ih (k + 1) (by omega)
      · skip
        refine pe_go rfl (s_icmp_ne_t ⟨by omega, by omega⟩ ⟨by omega, by omega⟩ c1) ?_
        refine pe_go (pc := 43) rfl (s_iinc (x := (k : Int)) (y := ((k + 1 : Nat) : Int)) rfl (by omega) (lv' := [(3, .int (iI ((k + 1 : Nat) : Int))), (0, .ref a), (1, .int (iI x)), (2, .int (iI y))]) rfl) ?_
        refine pe_go (pc := 46) rfl s_goto ?_
        rw [Sh.atF_n (fun z => by have := (Sh.isAt_s hX).mp z; omega)]
        refine pe_few (lv := [(3, .int (iI ((k + 1 : Nat) : Int))), (0, .ref a), (1, .int (iI x)), (2, .int (iI y))]) rfl rfl (by intro q hq; simp only [List.mem_cons, List.not_mem_nil, or_false] at hq; rcases hq with rfl | rfl | rfl | rfl <;> rfl) ?_
        exact ih (k + 1) (by omega)
theorem w_at {w : pW} {O Q : Nat → Prop} {a : Nat} {X : Sh} (hS : shAt w O Q a X) (hX9 : ∀ (k : Nat) (x y z : Int), k < 40 → X.1 k = some (x, y, z) → inSq x y ∧ -9999 ≤ z ∧ z ≤ 9999) {x y : Int} (hx : sm x) (hy : sm y) : pRun 126 [.ref a, .int (iI x), .int (iI y)] w (some (.int (iI (X.at x y)))) w := by
  obtain ⟨pa, fa, ha, pf, gf, hf, ff, hS⟩ := hS
  refine qx_run ?_
  refine pc_run (lv := [(0, .ref a), (1, .int (iI x)), (2, .int (iI y))]) rfl ?_
  refine pe_go (pc := 0) rfl (s_iconst (z := 0) rfl) ?_
  refine pe_go (pc := 1) rfl (s_istore_n (lv' := [(3, .int (iI 0)), (0, .ref a), (1, .int (iI x)), (2, .int (iI y))]) rfl) ?_
  refine pe_few (lv := [(3, .int (iI ((0 : Nat) : Int))), (0, .ref a), (1, .int (iI x)), (2, .int (iI y))]) rfl rfl (by intro q hq; simp only [List.mem_cons, List.not_mem_nil, or_false] at hq; rcases hq with rfl | rfl | rfl | rfl <;> rfl) ?_
  exact l_at hS hX9 hx hy 40 0 (by omega)
theorem l_free {w : pW} {O Q : Nat → Prop} {a : Nat} {X : Sh} {pa fa ha : Nat} {pf gf hf : Nat → Option Nat} {ff : Nat → Nat} (hS : shP w O Q a X pa fa ha pf gf hf ff) (hX9 : ∀ (k : Nat) (x y z : Int), k < 40 → X.1 k = some (x, y, z) → inSq x y ∧ -9999 ≤ z ∧ z ≤ 9999)  : ∀ (n k : Nat), k + n = 40 → qE 127 (2, [(1, .int (iI (k : Int))), (0, .ref a)], [], w) (fun r' w' => r' = some (.int (iI (X.frF n k))) ∧ w' = w) := by
  obtain ⟨hb, h0, h1, h2, h3, h4, h5, h6, h7, h8, h9⟩ := hS
  intro n
  induction n with
  | zero =>
    intro k hk
    refine pe_go (pc := 2) rfl (s_iload_n rfl) ?_
    refine pe_go (pc := 3) rfl (s_bipush (z := 40) rfl) ?_
    refine pe_go rfl (s_icmp_ge_t ⟨by omega, by omega⟩ ⟨by decide, by decide⟩ (by omega)) ?_
    refine pe_go (pc := 25) rfl (s_iconst (z := -1) rfl) ?_
    exact pe_ret rfl s_reti ⟨rfl, rfl⟩
  | succ n ih =>
    intro k hk
    rcases hX : X.1 k with _ | ⟨x1, y1, z1⟩
    · have e1 := h2 k (by omega) hX
      refine pe_go (pc := 2) rfl (s_iload_n rfl) ?_
      refine pe_go (pc := 3) rfl (s_bipush (z := 40) rfl) ?_
      refine pe_go rfl (s_icmp_ge_f ⟨by omega, by omega⟩ ⟨by decide, by decide⟩ (by omega)) ?_
      refine pe_go (pc := 8) rfl (s_aload_n rfl) ?_
      refine pe_go (pc := 9) rfl (s_getf (v := .ref pa) h0 rfl) ?_
      refine pe_go (pc := 12) rfl (s_iload_n rfl) ?_
      refine pe_go (pc := 13) rfl (s_aaldN h1 (k := k) (by omega) (by omega) e1) ?_
      refine pe_go (pc := 14) rfl s_ifnonnull_f ?_
      refine pe_go (pc := 17) rfl (s_iload_n rfl) ?_
      exact pe_ret rfl s_reti ⟨by rw [Sh.frF_n hX], rfl⟩
    · obtain ⟨r, e1, -, hr⟩ := h3 k x1 y1 z1 (by omega) hX
      obtain ⟨hq1, hq2⟩ := hX9 k x1 y1 z1 (by omega) hX
      refine pe_go (pc := 2) rfl (s_iload_n rfl) ?_
      refine pe_go (pc := 3) rfl (s_bipush (z := 40) rfl) ?_
      refine pe_go rfl (s_icmp_ge_f ⟨by omega, by omega⟩ ⟨by decide, by decide⟩ (by omega)) ?_
      refine pe_go (pc := 8) rfl (s_aload_n rfl) ?_
      refine pe_go (pc := 9) rfl (s_getf (v := .ref pa) h0 rfl) ?_
      refine pe_go (pc := 12) rfl (s_iload_n rfl) ?_
      refine pe_go (pc := 13) rfl (s_aald h1 (k := k) (by omega) (by omega) e1) ?_
      refine pe_go (pc := 14) rfl s_ifnonnull_t ?_
      refine pe_go (pc := 19) rfl (s_iinc (x := (k : Int)) (y := ((k + 1 : Nat) : Int)) rfl (by omega) (lv' := [(1, .int (iI ((k + 1 : Nat) : Int))), (0, .ref a)]) rfl) ?_
      refine pe_go (pc := 22) rfl s_goto ?_
      rw [Sh.frF_s hX]
      refine pe_few (lv := [(1, .int (iI ((k + 1 : Nat) : Int))), (0, .ref a)]) rfl rfl (by intro q hq; simp only [List.mem_cons, List.not_mem_nil, or_false] at hq; rcases hq with rfl | rfl <;> rfl) ?_
      exact ih (k + 1) (by omega)
theorem w_free {w : pW} {O Q : Nat → Prop} {a : Nat} {X : Sh} (hS : shAt w O Q a X) (hX9 : ∀ (k : Nat) (x y z : Int), k < 40 → X.1 k = some (x, y, z) → inSq x y ∧ -9999 ≤ z ∧ z ≤ 9999) : pRun 127 [.ref a] w (some (.int (iI X.free))) w := by
  obtain ⟨pa, fa, ha, pf, gf, hf, ff, hS⟩ := hS
  refine qx_run ?_
  refine pc_run (lv := [(0, .ref a)]) rfl ?_
  refine pe_go (pc := 0) rfl (s_iconst (z := 4) rfl) ?_
  refine pe_go (pc := 1) rfl (s_istore_n (lv' := [(1, .int (iI 4)), (0, .ref a)]) rfl) ?_
  refine pe_few (lv := [(1, .int (iI ((4 : Nat) : Int))), (0, .ref a)]) rfl rfl (by intro q hq; simp only [List.mem_cons, List.not_mem_nil, or_false] at hq; rcases hq with rfl | rfl <;> rfl) ?_
  exact l_free hS hX9 36 4 (by omega)
theorem l_goes {w : pW} {O Q : Nat → Prop} {a : Nat} {X : Sh} {pa fa ha : Nat} {pf gf hf : Nat → Option Nat} {ff : Nat → Nat} (hS : shP w O Q a X pa fa ha pf gf hf ff) {p : Nat} (hp : p < 40) (hX2 : ∀ q : Nat, q < 40 → 0 ≤ X.2.1 p q ∧ X.2.1 p q ≤ 2) : ∀ (n k : Nat), k + n = 40 → (∀ q : Nat, q < k → X.2.1 p q = 0) → qE 131 (23, [(2, .int (iI (k : Int))), (0, .ref a), (1, .int (iI (p : Int)))], [], w) (fun r' w' => r' = some (.int (bI (decide (∀ q : Nat, q < 40 → X.2.1 p q = 0)))) ∧ w' = w) := by
  obtain ⟨hb, h0, h1, h2, h3, h4, h5, h6, h7, h8, h9⟩ := hS
  obtain ⟨e1, -, hr⟩ := h5 p hp
  intro n
  induction n with
  | zero =>
    intro k hk hz
    refine pe_go (pc := 23) rfl (s_iload_n rfl) ?_
    refine pe_go (pc := 24) rfl (s_bipush (z := 40) rfl) ?_
    refine pe_go rfl (s_icmp_ge_t ⟨by omega, by omega⟩ ⟨by decide, by decide⟩ (by omega)) ?_
    refine pe_go (pc := 48) rfl (s_iconst (z := 1) rfl) ?_
    exact pe_ret rfl s_ret1 ⟨by rw [decide_eq_true (fun q hq => hz q (by omega))], rfl⟩
  | succ n ih =>
    intro k hk hz
    refine pe_go (pc := 23) rfl (s_iload_n rfl) ?_
    refine pe_go (pc := 24) rfl (s_bipush (z := 40) rfl) ?_
    refine pe_go rfl (s_icmp_ge_f ⟨by omega, by omega⟩ ⟨by decide, by decide⟩ (by omega)) ?_
    refine pe_go (pc := 29) rfl (s_aload_n rfl) ?_
    refine pe_go (pc := 30) rfl (s_getf (v := .ref fa) h0 rfl) ?_
    refine pe_go (pc := 33) rfl (s_iload_n rfl) ?_
    refine pe_go (pc := 34) rfl (s_aald h4 (k := p) (by omega) (by omega) e1) ?_
    refine pe_go (pc := 35) rfl (s_iload_n rfl) ?_
    refine pe_go (pc := 36) rfl (s_iald (n := 40) (f := X.2.1 p) (v := (X.2.1 p) k) hr (k := k) (by omega) (by omega) (by decide) rfl) ?_
    by_cases c1 : ((X.2.1 p) k) = 0
    · skip
      refine pe_go rfl (s_if_eq_t (by have := hX2 k (by omega); exact ⟨by omega, by omega⟩) c1) ?_
      refine pe_go (pc := 42) rfl (s_iinc (x := (k : Int)) (y := ((k + 1 : Nat) : Int)) rfl (by omega) (lv' := [(2, .int (iI ((k + 1 : Nat) : Int))), (0, .ref a), (1, .int (iI (p : Int)))]) rfl) ?_
      refine pe_go (pc := 45) rfl s_goto ?_
      refine pe_few (lv := [(2, .int (iI ((k + 1 : Nat) : Int))), (0, .ref a), (1, .int (iI (p : Int)))]) rfl rfl (by intro q hq; simp only [List.mem_cons, List.not_mem_nil, or_false] at hq; rcases hq with rfl | rfl | rfl <;> rfl) ?_
      exact ih (k + 1) (by omega) (fun q hq => by rcases Nat.lt_or_ge q k with z | z; exact hz q z; rw [show q = k by omega]; assumption)
    · skip
      refine pe_go rfl (s_if_eq_f (by have := hX2 k (by omega); exact ⟨by omega, by omega⟩) c1) ?_
      refine pe_go (pc := 40) rfl (s_iconst (z := 0) rfl) ?_
      exact pe_ret rfl s_ret0 ⟨by rw [decide_eq_false (fun z => absurd (z k (by omega)) (by assumption))], rfl⟩
theorem w_goes {w : pW} {O Q : Nat → Prop} {a : Nat} {X : Sh} (hS : shAt w O Q a X) (hX9 : ∀ (k : Nat) (x y z : Int), k < 40 → X.1 k = some (x, y, z) → inSq x y ∧ -9999 ≤ z ∧ z ≤ 9999) {p : Nat} (hp : p < 40) (hX2 : ∀ q : Nat, q < 40 → 0 ≤ X.2.1 p q ∧ X.2.1 p q ≤ 2) : pRun 131 [.ref a, .int (iI (p : Int))] w (some (.int (bI (decide ((X.1 p).isSome = true ∧ ∀ q : Nat, q < 40 → X.2.1 p q = 0))))) w := by
  obtain ⟨pa, fa, ha, pf, gf, hf, ff, hS⟩ := hS
  have hSS := hS
  obtain ⟨hb, h0, h1, h2, h3, h4, h5, h6, h7, h8, h9⟩ := hS
  refine qx_run ?_
  refine pc_run (lv := [(0, .ref a), (1, .int (iI (p : Int)))]) rfl ?_
  rcases hX : X.1 p with _ | ⟨x1, y1, z1⟩
  · have e1 := h2 p hp hX
    refine pe_go (pc := 0) rfl (s_iload_n rfl) ?_
    refine pe_go rfl (s_if_lt_f ⟨by omega, by omega⟩ (by omega)) ?_
    refine pe_go (pc := 4) rfl (s_iload_n rfl) ?_
    refine pe_go (pc := 5) rfl (s_bipush (z := 39) rfl) ?_
    refine pe_go rfl (s_icmp_gt_f ⟨by omega, by omega⟩ ⟨by decide, by decide⟩ (by omega)) ?_
    refine pe_go (pc := 10) rfl (s_aload_n rfl) ?_
    refine pe_go (pc := 11) rfl (s_getf (v := .ref pa) h0 rfl) ?_
    refine pe_go (pc := 14) rfl (s_iload_n rfl) ?_
    refine pe_go (pc := 15) rfl (s_aaldN h1 (k := p) (by omega) (by omega) e1) ?_
    refine pe_go (pc := 16) rfl s_ifnonnull_f ?_
    refine pe_go (pc := 19) rfl (s_iconst (z := 0) rfl) ?_
    exact pe_ret rfl s_ret0 ⟨congrArg (fun q => some (Value.int (bI q))) (decide_eq_false (by rintro ⟨z1, -⟩; cases z1)).symm, rfl⟩
  · obtain ⟨r, e1, -, hr⟩ := h3 p x1 y1 z1 hp hX
    obtain ⟨hq1, hq2⟩ := hX9 p x1 y1 z1 hp hX
    refine pe_go (pc := 0) rfl (s_iload_n rfl) ?_
    refine pe_go rfl (s_if_lt_f ⟨by omega, by omega⟩ (by omega)) ?_
    refine pe_go (pc := 4) rfl (s_iload_n rfl) ?_
    refine pe_go (pc := 5) rfl (s_bipush (z := 39) rfl) ?_
    refine pe_go rfl (s_icmp_gt_f ⟨by omega, by omega⟩ ⟨by decide, by decide⟩ (by omega)) ?_
    refine pe_go (pc := 10) rfl (s_aload_n rfl) ?_
    refine pe_go (pc := 11) rfl (s_getf (v := .ref pa) h0 rfl) ?_
    refine pe_go (pc := 14) rfl (s_iload_n rfl) ?_
    refine pe_go (pc := 15) rfl (s_aald h1 (k := p) (by omega) (by omega) e1) ?_
    refine pe_go (pc := 16) rfl s_ifnonnull_t ?_
    refine pe_go (pc := 21) rfl (s_iconst (z := 0) rfl) ?_
    refine pe_go (pc := 22) rfl (s_istore_n (lv' := [(2, .int (iI 0)), (0, .ref a), (1, .int (iI (p : Int)))]) rfl) ?_
    refine pe_few (lv := [(2, .int (iI ((0 : Nat) : Int))), (0, .ref a), (1, .int (iI (p : Int)))]) rfl rfl (by intro q hq; simp only [List.mem_cons, List.not_mem_nil, or_false] at hq; rcases hq with rfl | rfl | rfl <;> rfl) ?_
    refine pe_mono (fun r9 w9 z9 => ?_) (l_goes hSS hp hX2 40 0 (by omega) (fun q hq => absurd hq (Nat.not_lt_zero _)))
    rw [z9.1]
    refine ⟨?_, z9.2⟩
    by_cases c9 : ∀ q : Nat, q < 40 → X.2.1 p q = 0
    · rw [decide_eq_true c9]
      exact congrArg (fun q => some (Value.int (bI q))) (decide_eq_true (by exact ⟨rfl, c9⟩)).symm
    · rw [decide_eq_false c9]
      exact congrArg (fun q => some (Value.int (bI q))) (decide_eq_false (by rintro ⟨-, z2⟩; exact c9 z2)).symm
theorem w_goesN {w : pW} {a : Nat} {z : Int} (hz : sm z) (ho : z < 0) : pRun 131 [.ref a, .int (iI z)] w (some (.int (bI false))) w := by
  refine qx_run ?_
  refine pc_run (lv := [(0, .ref a), (1, .int (iI z))]) rfl ?_
  refine pe_go (pc := 0) rfl (s_iload_n rfl) ?_
  refine pe_go rfl (s_if_lt_t ⟨by omega, by omega⟩ ho) ?_
  refine pe_go (pc := 19) rfl (s_iconst (z := 0) rfl) ?_
  exact pe_ret rfl s_ret0 ⟨rfl, rfl⟩
