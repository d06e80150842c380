/-! THE LAW'S SHEETS: who sees whom. Rows laid by program (wip/p63/wk.py, hw.py, mk92.py). -/
def Sh.cx (X : Sh) (k : Nat) : Int := match X.1 k with
  | some q => q.1
  | none => 0
def Sh.cy (X : Sh) (k : Nat) : Int := match X.1 k with
  | some q => q.2.1
  | none => 0
def Sh.cz (X : Sh) (k : Nat) : Int := match X.1 k with
  | some q => q.2.2
  | none => 0
theorem Sh.c_of {X : Sh} {k : Nat} {x y z : Int} (h : X.1 k = some (x, y, z)) : X.cx k = x ∧ X.cy k = y ∧ X.cz k = z := by
  unfold Sh.cx Sh.cy Sh.cz
  rw [h]
  exact ⟨rfl, rfl, rfl⟩
theorem Sh.of_some {X : Sh} {k : Nat} (h : (X.1 k).isSome = true) : X.1 k = some (X.cx k, X.cy k, X.cz k) := by
  rcases e : X.1 k with _ | ⟨x, y, z⟩
  · rw [e] at h; cases h
  · obtain ⟨a, b, c⟩ := Sh.c_of e
    rw [a, b, c]
/-- p and q see one another on the sheet -/
def Sh.sees (X : Sh) (p q : Nat) : Prop := (∀ k : Nat, k < 40 → ¬ ((X.1 k).isSome = true ∧ btw2 (X.cx p) (X.cy p) (X.cx q) (X.cy q) (X.cx k) (X.cy k))) ∧ ∀ i : Nat, i < 40 → ∀ j : Nat, j < i → ¬ (X.2.1 i j ≠ 0 ∧ crs2 (X.cx p) (X.cy p) (X.cx q) (X.cy q) (X.cx i) (X.cy i) (X.cx j) (X.cy j))
theorem l_seesJ {w : pW} {O Q : Nat → Prop} {a : Nat} {X : Sh} {pa fa ha : Nat} {pf gf hf : Nat → Option Nat} {ff : Nat → Nat} (hS : shP w O Q a X pa fa ha pf gf hf ff) (hX9 : ∀ (k : Nat) (x y z : Int), k < 40 → X.1 k = some (x, y, z) → inSq x y ∧ -9999 ≤ z ∧ z ≤ 9999) {p q : Nat} (hp : p < 40) (hq : q < 40) (k1 : (X.1 p).isSome = true) (k2 : (X.1 q).isSome = true) (hX2 : ∀ i j : Nat, i < 40 → j < 40 → 0 ≤ X.2.1 i j ∧ X.2.1 i j ≤ 2) (hX3 : ∀ i j : Nat, i < 40 → j < 40 → X.2.1 i j ≠ 0 → (X.1 i).isSome = true ∧ (X.1 j).isSome = true) {i : Nat} (hi9 : i < 40) (K : (∀ j : Nat, j < i → ¬ (X.2.1 i j ≠ 0 ∧ crs2 (X.cx p) (X.cy p) (X.cx q) (X.cy q) (X.cx i) (X.cy i) (X.cx j) (X.cy j))) → qE 132 (118, [(4, .int (iI (i : Int))), (3, .int (iI (i : Int))), (0, .ref a), (1, .int (iI (p : Int))), (2, .int (iI (q : Int)))], [], w) (fun r' w' => w' = w ∧ ∃ v : Bool, r' = some (.int (bI v)) ∧ (v = true ↔ X.sees p q))) : ∀ (n j : Nat), j + n = i → (∀ j9 : Nat, j9 < j → ¬ (X.2.1 i j9 ≠ 0 ∧ crs2 (X.cx p) (X.cy p) (X.cx q) (X.cy q) (X.cx i) (X.cy i) (X.cx j9) (X.cy j9))) → qE 132 (61, [(4, .int (iI (j : Int))), (3, .int (iI (i : Int))), (0, .ref a), (1, .int (iI (p : Int))), (2, .int (iI (q : Int)))], [], w) (fun r' w' => w' = w ∧ ∃ v : Bool, r' = some (.int (bI v)) ∧ (v = true ↔ X.sees p q)) := by
  obtain ⟨hb, h0, h1, h2, h3, h4, h5, h6, h7, h8, h9⟩ := hS
  have e1p := Sh.of_some k1
  have e1q := Sh.of_some k2
  obtain ⟨u, ep, -, hu⟩ := h3 p _ _ _ hp e1p
  obtain ⟨v, eq, -, hv⟩ := h3 q _ _ _ hq e1q
  obtain ⟨ip1, ip2⟩ := hX9 p _ _ _ hp e1p
  obtain ⟨iq1, iq2⟩ := hX9 q _ _ _ hq e1q
  obtain ⟨ef, -, hf9⟩ := h5 i hi9
  intro n
  induction n with
  | zero =>
    intro j hj hz
    refine pe_go (pc := 61) rfl (s_iload rfl) ?_
    refine pe_go (pc := 63) rfl (s_iload_n rfl) ?_
    refine pe_go rfl (s_icmp_ge_t ⟨by omega, by omega⟩ ⟨by omega, by omega⟩ (by omega)) ?_
    rw [show j = i by omega]
    exact K (fun j9 h9 => hz j9 (by omega))
  | succ n ih =>
    intro j hj hz
    have hv9 := hX2 i j hi9 (by omega)
    by_cases c9 : X.2.1 i j = 0
    · skip
      refine pe_go (pc := 61) rfl (s_iload rfl) ?_
      refine pe_go (pc := 63) rfl (s_iload_n rfl) ?_
      refine pe_go rfl (s_icmp_ge_f ⟨by omega, by omega⟩ ⟨by omega, by omega⟩ (by omega)) ?_
      refine pe_go (pc := 67) rfl (s_aload_n rfl) ?_
      refine pe_go (pc := 68) rfl (s_getf (v := .ref fa) h0 rfl) ?_
      refine pe_go (pc := 71) rfl (s_iload_n rfl) ?_
      refine pe_go (pc := 72) rfl (s_aald h4 (k := i) (by omega) (by omega) ef) ?_
      refine pe_go (pc := 73) rfl (s_iload rfl) ?_
      refine pe_go (pc := 75) rfl (s_iald (n := 40) (f := X.2.1 i) (v := X.2.1 i j) hf9 (k := j) (by omega) (by omega) (by decide) rfl) ?_
      refine pe_go rfl (s_if_eq_t ⟨by omega, by omega⟩ c9) ?_
      refine pe_go (pc := 112) rfl (s_iinc (x := (j : Int)) (y := ((j + 1 : Nat) : Int)) rfl (by omega) (lv' := [(4, .int (iI ((j + 1 : Nat) : Int))), (3, .int (iI (i : Int))), (0, .ref a), (1, .int (iI (p : Int))), (2, .int (iI (q : Int)))]) rfl) ?_
      refine pe_go (pc := 115) rfl s_goto ?_
      refine pe_few (lv := [(4, .int (iI ((j + 1 : Nat) : Int))), (3, .int (iI (i : Int))), (0, .ref a), (1, .int (iI (p : Int))), (2, .int (iI (q : Int)))]) rfl rfl (by intro q hq; simp only [List.mem_cons, List.not_mem_nil, or_false] at hq; rcases hq with rfl | rfl | rfl | rfl | rfl <;> rfl) ?_
      refine ih (j + 1) (by omega) (fun j9 h9 => ?_)
      by_cases c8 : j9 = j
      · rw [c8]; exact (fun z => z.1 c9)
      · exact hz j9 (by omega)
    · obtain ⟨q1, q2⟩ := hX3 i j hi9 (by omega) c9
      have e1i := Sh.of_some q1
      have e1j := Sh.of_some q2
      obtain ⟨s, es, -, hs⟩ := h3 i _ _ _ hi9 e1i
      obtain ⟨t, et, -, ht⟩ := h3 j _ _ _ (by omega) e1j
      obtain ⟨is1, is2⟩ := hX9 i _ _ _ hi9 e1i
      obtain ⟨it1, it2⟩ := hX9 j _ _ _ (by omega) e1j
      refine pe_go (pc := 61) rfl (s_iload rfl) ?_
      refine pe_go (pc := 63) rfl (s_iload_n rfl) ?_
      refine pe_go rfl (s_icmp_ge_f ⟨by omega, by omega⟩ ⟨by omega, by omega⟩ (by omega)) ?_
      refine pe_go (pc := 67) rfl (s_aload_n rfl) ?_
      refine pe_go (pc := 68) rfl (s_getf (v := .ref fa) h0 rfl) ?_
      refine pe_go (pc := 71) rfl (s_iload_n rfl) ?_
      refine pe_go (pc := 72) rfl (s_aald h4 (k := i) (by omega) (by omega) ef) ?_
      refine pe_go (pc := 73) rfl (s_iload rfl) ?_
      refine pe_go (pc := 75) rfl (s_iald (n := 40) (f := X.2.1 i) (v := X.2.1 i j) hf9 (k := j) (by omega) (by omega) (by decide) rfl) ?_
      refine pe_go rfl (s_if_eq_f ⟨by omega, by omega⟩ c9) ?_
      refine pe_go (pc := 79) rfl (s_aload_n rfl) ?_
      refine pe_go (pc := 80) rfl (s_getf (v := .ref pa) h0 rfl) ?_
      refine pe_go (pc := 83) rfl (s_iload_n rfl) ?_
      refine pe_go (pc := 84) rfl (s_aald h1 (k := p) (by omega) (by omega) ep) ?_
      refine pe_go (pc := 85) rfl (s_aload_n rfl) ?_
      refine pe_go (pc := 86) rfl (s_getf (v := .ref pa) h0 rfl) ?_
      refine pe_go (pc := 89) rfl (s_iload_n rfl) ?_
      refine pe_go (pc := 90) rfl (s_aald h1 (k := q) (by omega) (by omega) eq) ?_
      refine pe_go (pc := 91) rfl (s_aload_n rfl) ?_
      refine pe_go (pc := 92) rfl (s_getf (v := .ref pa) h0 rfl) ?_
      refine pe_go (pc := 95) rfl (s_iload_n rfl) ?_
      refine pe_go (pc := 96) rfl (s_aald h1 (k := i) (by omega) (by omega) es) ?_
      refine pe_go (pc := 97) rfl (s_aload_n rfl) ?_
      refine pe_go (pc := 98) rfl (s_getf (v := .ref pa) h0 rfl) ?_
      refine pe_go (pc := 101) rfl (s_iload rfl) ?_
      refine pe_go (pc := 103) rfl (s_aald h1 (k := j) (by omega) (by omega) et) ?_
      refine pe_call rfl (s_invN rfl rfl rfl) (w_crosses hu hv hs ht ip1 iq1 is1 it1) ?_
      by_cases b1 : crs2 (X.cx p) (X.cy p) (X.cx q) (X.cy q) (X.cx i) (X.cy i) (X.cx j) (X.cy j)
      · skip
        refine pe_go rfl (s_ifeq_true (decide_eq_true b1)) ?_
        refine pe_go (pc := 110) rfl (s_iconst (z := 0) rfl) ?_
        exact pe_ret rfl s_ret0 ⟨rfl, false, rfl, Iff.intro (fun z => by cases z) (fun z => absurd ⟨c9, by assumption⟩ (z.2 i hi9 j (by omega)))⟩
      · skip
        refine pe_go rfl (s_ifeq_false (decide_eq_false b1)) ?_
        refine pe_go (pc := 112) rfl (s_iinc (x := (j : Int)) (y := ((j + 1 : Nat) : Int)) rfl (by omega) (lv' := [(4, .int (iI ((j + 1 : Nat) : Int))), (3, .int (iI (i : Int))), (0, .ref a), (1, .int (iI (p : Int))), (2, .int (iI (q : Int)))]) rfl) ?_
        refine pe_go (pc := 115) rfl s_goto ?_
        refine pe_few (lv := [(4, .int (iI ((j + 1 : Nat) : Int))), (3, .int (iI (i : Int))), (0, .ref a), (1, .int (iI (p : Int))), (2, .int (iI (q : Int)))]) rfl rfl (by intro q hq; simp only [List.mem_cons, List.not_mem_nil, or_false] at hq; rcases hq with rfl | rfl | rfl | rfl | rfl <;> rfl) ?_
        refine ih (j + 1) (by omega) (fun j9 h9 => ?_)
        by_cases c8 : j9 = j
        · rw [c8]; exact (fun z => absurd z.2 (by assumption))
        · exact hz j9 (by omega)
theorem l_seesI {w : pW} {O Q : Nat → Prop} {a : Nat} {X : Sh} {pa fa ha : Nat} {pf gf hf : Nat → Option Nat} {ff : Nat → Nat} (hS : shP w O Q a X pa fa ha pf gf hf ff) (hX9 : ∀ (k : Nat) (x y z : Int), k < 40 → X.1 k = some (x, y, z) → inSq x y ∧ -9999 ≤ z ∧ z ≤ 9999) {p q : Nat} (hp : p < 40) (hq : q < 40) (k1 : (X.1 p).isSome = true) (k2 : (X.1 q).isSome = true) (hX2 : ∀ i j : Nat, i < 40 → j < 40 → 0 ≤ X.2.1 i j ∧ X.2.1 i j ≤ 2) (hX3 : ∀ i j : Nat, i < 40 → j < 40 → X.2.1 i j ≠ 0 → (X.1 i).isSome = true ∧ (X.1 j).isSome = true) (hA : ∀ k : Nat, k < 40 → ¬ ((X.1 k).isSome = true ∧ btw2 (X.cx p) (X.cy p) (X.cx q) (X.cy q) (X.cx k) (X.cy k))) : ∀ (n i : Nat), i + n = 40 → (∀ i9 : Nat, i9 < i → ∀ j : Nat, j < i9 → ¬ (X.2.1 i9 j ≠ 0 ∧ crs2 (X.cx p) (X.cy p) (X.cx q) (X.cy q) (X.cx i9) (X.cy i9) (X.cx j) (X.cy j))) → qE 132 (52, [(3, .int (iI (i : Int))), (0, .ref a), (1, .int (iI (p : Int))), (2, .int (iI (q : Int)))], [], w) (fun r' w' => w' = w ∧ ∃ v : Bool, r' = some (.int (bI v)) ∧ (v = true ↔ X.sees p q)) := by
  intro n
  induction n with
  | zero =>
    intro i hi9 hz
    refine pe_go (pc := 52) rfl (s_iload_n rfl) ?_
    refine pe_go (pc := 53) rfl (s_bipush (z := 40) rfl) ?_
    refine pe_go rfl (s_icmp_ge_t ⟨by omega, by omega⟩ ⟨by decide, by decide⟩ (by omega)) ?_
    refine pe_go (pc := 124) rfl (s_iconst (z := 1) rfl) ?_
    exact pe_ret rfl s_ret1 ⟨rfl, true, rfl, Iff.intro (fun _ => ⟨hA, fun i9 h9 => hz i9 (by omega)⟩) (fun _ => rfl)⟩
  | succ n ih =>
    intro i hi9 hz
    refine pe_go (pc := 52) rfl (s_iload_n rfl) ?_
    refine pe_go (pc := 53) rfl (s_bipush (z := 40) rfl) ?_
    refine pe_go rfl (s_icmp_ge_f ⟨by omega, by omega⟩ ⟨by decide, by decide⟩ (by omega)) ?_
    refine pe_go (pc := 58) rfl (s_iconst (z := 0) rfl) ?_
    refine pe_go (pc := 59) rfl (s_istore (lv' := [(4, .int (iI 0)), (3, .int (iI (i : Int))), (0, .ref a), (1, .int (iI (p : Int))), (2, .int (iI (q : Int)))]) rfl) ?_
    refine pe_few (lv := [(4, .int (iI ((0 : Nat) : Int))), (3, .int (iI (i : Int))), (0, .ref a), (1, .int (iI (p : Int))), (2, .int (iI (q : Int)))]) rfl rfl (by intro q hq; simp only [List.mem_cons, List.not_mem_nil, or_false] at hq; rcases hq with rfl | rfl | rfl | rfl | rfl <;> rfl) ?_
    refine l_seesJ hS hX9 hp hq k1 k2 hX2 hX3 (show i < 40 by omega) (fun hK => ?_) i 0 (by omega) (fun j9 h9 => absurd h9 (Nat.not_lt_zero _))
    refine pe_go (pc := 118) rfl (s_iinc (x := (i : Int)) (y := ((i + 1 : Nat) : Int)) rfl (by omega) (lv' := [(3, .int (iI ((i + 1 : Nat) : Int))), (4, .int (iI (i : Int))), (0, .ref a), (1, .int (iI (p : Int))), (2, .int (iI (q : Int)))]) rfl) ?_
    refine pe_go (pc := 121) rfl s_goto ?_
    refine pe_few (lv := [(3, .int (iI ((i + 1 : Nat) : Int))), (0, .ref a), (1, .int (iI (p : Int))), (2, .int (iI (q : Int)))]) rfl rfl (by intro q hq; simp only [List.mem_cons, List.not_mem_nil, or_false] at hq; rcases hq with rfl | rfl | rfl | rfl <;> rfl) ?_
    refine ih (i + 1) (by omega) (fun i9 h9 => ?_)
    by_cases c8 : i9 = i
    · rw [c8]; exact hK
    · exact hz i9 (by omega)
theorem l_seesK {w : pW} {O Q : Nat → Prop} {a : Nat} {X : Sh} {pa fa ha : Nat} {pf gf hf : Nat → Option Nat} {ff : Nat → Nat} (hS : shP w O Q a X pa fa ha pf gf hf ff) (hX9 : ∀ (k : Nat) (x y z : Int), k < 40 → X.1 k = some (x, y, z) → inSq x y ∧ -9999 ≤ z ∧ z ≤ 9999) {p q : Nat} (hp : p < 40) (hq : q < 40) (k1 : (X.1 p).isSome = true) (k2 : (X.1 q).isSome = true) (hX2 : ∀ i j : Nat, i < 40 → j < 40 → 0 ≤ X.2.1 i j ∧ X.2.1 i j ≤ 2) (hX3 : ∀ i j : Nat, i < 40 → j < 40 → X.2.1 i j ≠ 0 → (X.1 i).isSome = true ∧ (X.1 j).isSome = true) : ∀ (n k : Nat), k + n = 40 → (∀ k9 : Nat, k9 < k → ¬ ((X.1 k9).isSome = true ∧ btw2 (X.cx p) (X.cy p) (X.cx q) (X.cy q) (X.cx k9) (X.cy k9))) → qE 132 (2, [(3, .int (iI (k : Int))), (0, .ref a), (1, .int (iI (p : Int))), (2, .int (iI (q : Int)))], [], w) (fun r' w' => w' = w ∧ ∃ v : Bool, r' = some (.int (bI v)) ∧ (v = true ↔ X.sees p q)) := by
  have hSS := hS
  have hAt : shAt w O Q a X := ⟨pa, fa, ha, pf, gf, hf, ff, hS⟩
  obtain ⟨hb, h0, h1, h2, h3, h4, h5, h6, h7, h8, h9⟩ := hS
  have e1p := Sh.of_some k1
  have e1q := Sh.of_some k2
  obtain ⟨u, ep, -, hu⟩ := h3 p _ _ _ hp e1p
  obtain ⟨v, eq, -, hv⟩ := h3 q _ _ _ hq e1q
  obtain ⟨ip1, ip2⟩ := hX9 p _ _ _ hp e1p
  obtain ⟨iq1, iq2⟩ := hX9 q _ _ _ hq e1q
  intro n
  induction n with
  | zero =>
    intro k hk hz
    refine pe_go (pc := 2) rfl (s_iload_n rfl) ?_
    refine pe_go (pc := 3) rfl (s_bipush (z := 40) rfl) ?_
    refine pe_go rfl (s_icmp_ge_t ⟨by omega, by omega⟩ ⟨by decide, by decide⟩ (by omega)) ?_
    refine pe_go (pc := 50) rfl (s_iconst (z := 0) rfl) ?_
    refine pe_go (pc := 51) rfl (s_istore_n (lv' := [(3, .int (iI 0)), (0, .ref a), (1, .int (iI (p : Int))), (2, .int (iI (q : Int)))]) rfl) ?_
    refine pe_few (lv := [(3, .int (iI ((0 : Nat) : Int))), (0, .ref a), (1, .int (iI (p : Int))), (2, .int (iI (q : Int)))]) rfl rfl (by intro q hq; simp only [List.mem_cons, List.not_mem_nil, or_false] at hq; rcases hq with rfl | rfl | rfl | rfl <;> rfl) ?_
    exact l_seesI hSS hX9 hp hq k1 k2 hX2 hX3 (fun k9 h9 => hz k9 (by omega)) 40 0 (by omega) (fun i9 h9 => absurd h9 (Nat.not_lt_zero _))
  | succ n ih =>
    intro k hk hz
    by_cases c9 : (X.1 k).isSome = true
    · have e1k := Sh.of_some c9
      obtain ⟨r, er, -, hr⟩ := h3 k _ _ _ (by omega) e1k
      obtain ⟨ir1, ir2⟩ := hX9 k _ _ _ (by omega) e1k
      refine pe_go (pc := 2) rfl (s_iload_n rfl) ?_
      refine pe_go (pc := 3) rfl (s_bipush (z := 40) rfl) ?_
      refine pe_go rfl (s_icmp_ge_f ⟨by omega, by omega⟩ ⟨by decide, by decide⟩ (by omega)) ?_
      refine pe_go (pc := 8) rfl (s_aload_n rfl) ?_
      refine pe_go (pc := 9) rfl (s_getf (v := .ref pa) h0 rfl) ?_
      refine pe_go (pc := 12) rfl (s_iload_n rfl) ?_
      refine pe_go (pc := 13) rfl (s_aald h1 (k := k) (by omega) (by omega) er) ?_
      refine pe_go (pc := 14) rfl s_ifnull_f ?_
      refine pe_go (pc := 17) rfl (s_aload_n rfl) ?_
      refine pe_go (pc := 18) rfl (s_iload_n rfl) ?_
      refine pe_go (pc := 19) rfl (s_iload_n rfl) ?_
      refine pe_go (pc := 20) rfl (s_aload_n rfl) ?_
      refine pe_go (pc := 21) rfl (s_getf (v := .ref pa) h0 rfl) ?_
      refine pe_go (pc := 24) rfl (s_iload_n rfl) ?_
      refine pe_go (pc := 25) rfl (s_aald h1 (k := k) (by omega) (by omega) er) ?_
      refine pe_go (pc := 26) rfl (s_iconst (z := 0) rfl) ?_
      refine pe_go (pc := 27) rfl (s_iald (n := 3) (f := row3 (X.cx k) (X.cy k) (X.cz k)) (v := X.cx k) hr (k := 0) (by omega) (by omega) (by decide) rfl) ?_
      refine pe_go (pc := 28) rfl (s_aload_n rfl) ?_
      refine pe_go (pc := 29) rfl (s_getf (v := .ref pa) h0 rfl) ?_
      refine pe_go (pc := 32) rfl (s_iload_n rfl) ?_
      refine pe_go (pc := 33) rfl (s_aald h1 (k := k) (by omega) (by omega) er) ?_
      refine pe_go (pc := 34) rfl (s_iconst (z := 1) rfl) ?_
      refine pe_go (pc := 35) rfl (s_iald (n := 3) (f := row3 (X.cx k) (X.cy k) (X.cz k)) (v := X.cy k) hr (k := 1) (by omega) (by omega) (by decide) rfl) ?_
      refine pe_call rfl (s_invV rfl h0 rfl rfl) (w_between hAt hp hq e1p e1q ip1 iq1 ir1) ?_
      by_cases b1 : btw2 (X.cx p) (X.cy p) (X.cx q) (X.cy q) (X.cx k) (X.cy k)
      · skip
        refine pe_go rfl (s_ifeq_true (decide_eq_true b1)) ?_
        refine pe_go (pc := 42) rfl (s_iconst (z := 0) rfl) ?_
        exact pe_ret rfl s_ret0 ⟨rfl, false, rfl, Iff.intro (fun z => by cases z) (fun z => absurd ⟨c9, by assumption⟩ (z.1 k (by omega)))⟩
      · skip
        refine pe_go rfl (s_ifeq_false (decide_eq_false b1)) ?_
        refine pe_go (pc := 44) rfl (s_iinc (x := (k : Int)) (y := ((k + 1 : Nat) : Int)) rfl (by omega) (lv' := [(3, .int (iI ((k + 1 : Nat) : Int))), (0, .ref a), (1, .int (iI (p : Int))), (2, .int (iI (q : Int)))]) rfl) ?_
        refine pe_go (pc := 47) rfl s_goto ?_
        refine pe_few (lv := [(3, .int (iI ((k + 1 : Nat) : Int))), (0, .ref a), (1, .int (iI (p : Int))), (2, .int (iI (q : Int)))]) rfl rfl (by intro q hq; simp only [List.mem_cons, List.not_mem_nil, or_false] at hq; rcases hq with rfl | rfl | rfl | rfl <;> rfl) ?_
        refine ih (k + 1) (by omega) (fun k9 h9 => ?_)
        by_cases c8 : k9 = k
        · rw [c8]; exact (fun z => absurd z.2 (by assumption))
        · exact hz k9 (by omega)
    · have er := h2 k (by omega) (by rcases e : X.1 k with _ | t9; rfl; rw [e] at c9; exact absurd rfl c9)
      refine pe_go (pc := 2) rfl (s_iload_n rfl) ?_
      refine pe_go (pc := 3) rfl (s_bipush (z := 40) rfl) ?_
      refine pe_go rfl (s_icmp_ge_f ⟨by omega, by omega⟩ ⟨by decide, by decide⟩ (by omega)) ?_
      refine pe_go (pc := 8) rfl (s_aload_n rfl) ?_
      refine pe_go (pc := 9) rfl (s_getf (v := .ref pa) h0 rfl) ?_
      refine pe_go (pc := 12) rfl (s_iload_n rfl) ?_
      refine pe_go (pc := 13) rfl (s_aaldN h1 (k := k) (by omega) (by omega) er) ?_
      refine pe_go (pc := 14) rfl s_ifnull_t ?_
      refine pe_go (pc := 44) rfl (s_iinc (x := (k : Int)) (y := ((k + 1 : Nat) : Int)) rfl (by omega) (lv' := [(3, .int (iI ((k + 1 : Nat) : Int))), (0, .ref a), (1, .int (iI (p : Int))), (2, .int (iI (q : Int)))]) rfl) ?_
      refine pe_go (pc := 47) rfl s_goto ?_
      refine pe_few (lv := [(3, .int (iI ((k + 1 : Nat) : Int))), (0, .ref a), (1, .int (iI (p : Int))), (2, .int (iI (q : Int)))]) rfl rfl (by intro q hq; simp only [List.mem_cons, List.not_mem_nil, or_false] at hq; rcases hq with rfl | rfl | rfl | rfl <;> rfl) ?_
      refine ih (k + 1) (by omega) (fun k9 h9 => ?_)
      by_cases c8 : k9 = k
      · rw [c8]; exact (fun z => c9 z.1)
      · exact hz k9 (by omega)
theorem w_sees {w : pW} {O Q : Nat → Prop} {a : Nat} {X : Sh} (hS : shAt w O Q a X) (hX9 : ∀ (k : Nat) (x y z : Int), k < 40 → X.1 k = some (x, y, z) → inSq x y ∧ -9999 ≤ z ∧ z ≤ 9999) {p q : Nat} (hp : p < 40) (hq : q < 40) (k1 : (X.1 p).isSome = true) (k2 : (X.1 q).isSome = true) (hX2 : ∀ i j : Nat, i < 40 → j < 40 → 0 ≤ X.2.1 i j ∧ X.2.1 i j ≤ 2) (hX3 : ∀ i j : Nat, i < 40 → j < 40 → X.2.1 i j ≠ 0 → (X.1 i).isSome = true ∧ (X.1 j).isSome = true) : qC 132 [.ref a, .int (iI (p : Int)), .int (iI (q : Int))] w (fun r' w' => w' = w ∧ ∃ v : Bool, r' = some (.int (bI v)) ∧ (v = true ↔ X.sees p q)) := by
  obtain ⟨pa, fa, ha, pf, gf, hf, ff, hS⟩ := hS
  refine pc_run (lv := [(0, .ref a), (1, .int (iI (p : Int))), (2, .int (iI (q : Int)))]) rfl ?_
  refine pe_go (pc := 0) rfl (s_iconst (z := 0) rfl) ?_
  refine pe_go (pc := 1) rfl (s_istore_n (lv' := [(3, .int (iI 0)), (0, .ref a), (1, .int (iI (p : Int))), (2, .int (iI (q : Int)))]) rfl) ?_
  refine pe_few (lv := [(3, .int (iI ((0 : Nat) : Int))), (0, .ref a), (1, .int (iI (p : Int))), (2, .int (iI (q : Int)))]) rfl rfl (by intro q hq; simp only [List.mem_cons, List.not_mem_nil, or_false] at hq; rcases hq with rfl | rfl | rfl | rfl <;> rfl) ?_
  exact l_seesK hS hX9 hp hq k1 k2 hX2 hX3 40 0 (by omega) (fun k9 h9 => absurd h9 (Nat.not_lt_zero _))
