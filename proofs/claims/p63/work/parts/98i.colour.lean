/-! LEAST COLOURS. By hand, rows laid by program (wip/p63/wk.py, wo.py, mk98i.py). -/
/-- beside one another, as the rows tell it -/
abbrev St.nr (S : St) (p q : Nat) : Prop := bt (S.ne p) q = true
/-- each point that is there has the least colour that no neighbour ahead of it has -/
def colOk (S : St) (cl : Nat → Int) (n : Nat) : Prop := ∀ p : Nat, p < n → S.has p → 0 ≤ cl p ∧ cl p < 40 ∧ (∀ q : Nat, q < p → S.nr p q → cl q ≠ cl p) ∧ ∀ c : Nat, (c : Int) < cl p → ∃ q : Nat, q < p ∧ S.nr p q ∧ cl q = (c : Int)
theorem l_leastA {pre post : pW} {b : Nat} (hb : pre.length = b) {S : St} {pn : Nat → Int} {pb : Nat → Int64} {pc : Int} {rn : Nat → Int} {rb : Nat → Int64} {rc : Int} {cl : Nat → Int} {p : Nat} (hp : p < 40) (hcl : ∀ q : Nat, q < p → S.nr p q → 0 ≤ cl q ∧ cl q < 64) {Φ : Option Value → pW → Prop} (K : ∀ U : Int64, (∀ c : Nat, c < 64 → (bt U c = true ↔ ∃ q : Nat, q < p ∧ S.nr p q ∧ cl q = (c : Int))) → qE 119 (42, [(4, .int (iI (p : Int))), (2, .long U), (0, .ref b), (1, .int (iI (p : Int)))], [], (pre ++ oC (b + 1)) ++ (mB (b + 1) S ++ (oP (b + 1) pn pb pc rn rb rc cl ++ post))) Φ) : ∀ (d k : Nat) (U : Int64), k + d = p → (∀ c : Nat, c < 64 → (bt U c = true ↔ ∃ q : Nat, q < k ∧ S.nr p q ∧ cl q = (c : Int))) → qE 119 (5, [(4, .int (iI (k : Int))), (2, .long U), (0, .ref b), (1, .int (iI (p : Int)))], [], (pre ++ oC (b + 1)) ++ (mB (b + 1) S ++ (oP (b + 1) pn pb pc rn rb rc cl ++ post))) Φ := by
  intro d
  induction d with
  | zero =>
    intro k U hk hU
    refine pe_go (pc := 5) rfl (s_iload rfl) ?_
    refine pe_go (pc := 7) rfl (s_iload_n rfl) ?_
    refine pe_go rfl (s_icmp_ge_t ⟨by omega, by omega⟩ ⟨by omega, by omega⟩ (by omega)) ?_
    have hkp : k = p := by omega
    subst hkp
    exact K U hU
  | succ d ih =>
    intro k U hk hU
    refine pe_go (pc := 5) rfl (s_iload rfl) ?_
    refine pe_go (pc := 7) rfl (s_iload_n rfl) ?_
    refine pe_go rfl (s_icmp_ge_f ⟨by omega, by omega⟩ ⟨by omega, by omega⟩ (by omega)) ?_
    refine pe_go (pc := 11) rfl (s_aload_n rfl) ?_
    refine pe_go (pc := 12) rfl (s_getf (v := .ref (b + 1)) (gO hb) rfl) ?_
    refine pe_go (pc := 15) rfl (s_iload_n rfl) ?_
    refine pe_go (pc := 16) rfl (s_iload rfl) ?_
    refine pe_call rfl (s_invV rfl (gA0 (oC_len hb) (mB_0 _ _ _)) rfl rfl) (c_isNear (oC_len hb) S (a := p) (b := k) hp (by omega)) ?_
    by_cases b1 : bt (S.ne p) k = true
    · skip
      refine pe_go rfl (s_ifeq_true (decide_eq_true b1)) ?_
      refine pe_go (pc := 24) rfl (s_lload_n rfl) ?_
      refine pe_go (pc := 25) rfl s_lconst1 ?_
      refine pe_go (pc := 26) rfl (s_aload_n rfl) ?_
      refine pe_go (pc := 27) rfl (s_getf (v := .ref (b + 1 + 55)) (gO hb) rfl) ?_
      refine pe_go (pc := 30) rfl (s_iload rfl) ?_
      have hc9 := hcl k (by omega) (by assumption)
      refine pe_go (pc := 32) rfl (s_iald (n := 40) (f := cl) (v := (((cl k).toNat : Nat) : Int)) (gA (oC_len hb) oX_cl) (k := k) (by omega) (by omega) (by decide) (by omega)) ?_
      refine pe_go (pc := 33) rfl (s_bit1 (k := ((cl k).toNat)) (by omega) (by omega)) ?_
      refine pe_go (pc := 34) rfl s_bset ?_
      refine pe_go (pc := 35) rfl (s_lstore_n (lv' := [(2, .long (bSet U ((cl k).toNat))), (4, .int (iI (k : Int))), (0, .ref b), (1, .int (iI (p : Int)))]) rfl) ?_
      refine pe_go (pc := 36) rfl (s_iinc (x := (k : Int)) (y := ((k + 1 : Nat) : Int)) rfl (by omega) (lv' := [(4, .int (iI ((k + 1 : Nat) : Int))), (2, .long (bSet U ((cl k).toNat))), (0, .ref b), (1, .int (iI (p : Int)))]) rfl) ?_
      refine pe_go (pc := 39) rfl s_goto ?_
      refine pe_few (lv := [(4, .int (iI ((k + 1 : Nat) : Int))), (2, .long (bSet U ((cl k).toNat))), (0, .ref b), (1, .int (iI (p : Int)))]) rfl rfl (by intro q hq; simp only [List.mem_cons, List.not_mem_nil, or_false] at hq; rcases hq with rfl | rfl | rfl | rfl <;> rfl) ?_
      refine ih (k + 1) _ (by omega) (fun c hc => ?_)
      rw [bt_set (by omega), Bool.or_eq_true, hU c hc, decide_eq_true_iff]
      constructor
      · rintro (⟨q, q1, q2, q3⟩ | e)
        · exact ⟨q, by omega, q2, q3⟩
        · exact ⟨k, by omega, by assumption, by omega⟩
      · rintro ⟨q, q1, q2, q3⟩
        by_cases e : q = k
        · subst e; exact Or.inr (by omega)
        · exact Or.inl ⟨q, by omega, q2, q3⟩
    · skip
      refine pe_go rfl (s_ifeq_false (decide_eq_false b1)) ?_
      refine pe_go (pc := 36) rfl (s_iinc (x := (k : Int)) (y := ((k + 1 : Nat) : Int)) rfl (by omega) (lv' := [(4, .int (iI ((k + 1 : Nat) : Int))), (2, .long U), (0, .ref b), (1, .int (iI (p : Int)))]) rfl) ?_
      refine pe_go (pc := 39) rfl s_goto ?_
      refine pe_few (lv := [(4, .int (iI ((k + 1 : Nat) : Int))), (2, .long U), (0, .ref b), (1, .int (iI (p : Int)))]) rfl rfl (by intro q hq; simp only [List.mem_cons, List.not_mem_nil, or_false] at hq; rcases hq with rfl | rfl | rfl | rfl <;> rfl) ?_
      refine ih (k + 1) _ (by omega) (fun c hc => ?_)
      rw [hU c hc]
      constructor
      · rintro ⟨q, q1, q2, q3⟩; exact ⟨q, by omega, q2, q3⟩
      · rintro ⟨q, q1, q2, q3⟩
        refine ⟨q, ?_, q2, q3⟩
        have : q ≠ k := fun e => absurd (e ▸ q2) (by assumption)
        omega
theorem l_leastB {pre post : pW} {b : Nat} (hb : pre.length = b) {S : St} {pn : Nat → Int} {pb : Nat → Int64} {pc : Int} {rn : Nat → Int} {rb : Nat → Int64} {rc : Int} {cl : Nat → Int} {p : Nat} (hp : p < 40) (hcl : ∀ q : Nat, q < p → S.nr p q → 0 ≤ cl q ∧ cl q < 64) {U : Int64} (hU : ∀ c : Nat, c < 64 → (bt U c = true ↔ ∃ q : Nat, q < p ∧ S.nr p q ∧ cl q = (c : Int))) : ∀ (d c : Nat), c + d = 40 → (∀ c9 : Nat, c9 < c → bt U c9 = true) → qE 119 (48, [(5, .int (iI (c : Int))), (4, .int (iI (c : Int))), (2, .long U), (0, .ref b), (1, .int (iI (p : Int)))], [], (pre ++ oC (b + 1)) ++ (mB (b + 1) S ++ (oP (b + 1) pn pb pc rn rb rc cl ++ post))) (fun r w' => w' = (pre ++ oC (b + 1)) ++ (mB (b + 1) S ++ (oP (b + 1) pn pb pc rn rb rc cl ++ post)) ∧ ∃ c : Nat, r = some (.int (iI (c : Int))) ∧ c < 40 ∧ (∀ q : Nat, q < p → S.nr p q → cl q ≠ (c : Int)) ∧ ∀ c9 : Nat, c9 < c → ∃ q : Nat, q < p ∧ S.nr p q ∧ cl q = (c9 : Int)) := by
  intro d
  induction d with
  | zero =>
    intro c hc hz
    exfalso
    have hq : ∀ i : Nat, ∃ q : Nat, i ≤ 39 → q < p ∧ S.nr p q ∧ cl q = (i : Int) := fun i => by
      by_cases h : i ≤ 39
      · obtain ⟨q, q1⟩ := (hU i (by omega)).mp (hz i (by omega))
        exact ⟨q, fun _ => q1⟩
      · exact ⟨0, fun z => absurd z h⟩
    obtain ⟨f, hf⟩ := Classical.axiomOfChoice hq
    obtain ⟨i, j, h1, h2, h3⟩ := php 39 f (fun i hi => by have := (hf i hi).1; omega)
    have a := (hf i (by omega)).2.2
    have b9 := (hf j h2).2.2
    rw [h3] at a
    omega
  | succ d ih =>
    intro c hc hz
    refine pe_go (pc := 48) rfl (s_iload rfl) ?_
    refine pe_go (pc := 50) rfl (s_bipush (z := 40) rfl) ?_
    refine pe_go rfl (s_icmp_ge_f ⟨by omega, by omega⟩ ⟨by decide, by decide⟩ (by omega)) ?_
    refine pe_go (pc := 55) rfl (s_lload_n rfl) ?_
    refine pe_go (pc := 56) rfl (s_iload rfl) ?_
    refine pe_go (pc := 58) rfl s_lushr ?_
    refine pe_go (pc := 59) rfl s_lconst1 ?_
    refine pe_go (pc := 60) rfl (s_bit (k := c) (by omega) (by omega)) ?_
    refine pe_go (pc := 61) rfl s_lconst0 ?_
    refine pe_go (pc := 62) rfl s_cmpbit ?_
    by_cases b1 : bt U c = true
    · skip
      refine pe_go rfl (s_ifeq_true b1) ?_
      refine pe_go (pc := 66) rfl (s_iinc (x := (c : Int)) (y := ((c + 1 : Nat) : Int)) rfl (by omega) (lv' := [(4, .int (iI ((c + 1 : Nat) : Int))), (5, .int (iI (c : Int))), (2, .long U), (0, .ref b), (1, .int (iI (p : Int)))]) rfl) ?_
      refine pe_go (pc := 69) rfl (s_iinc (x := (c : Int)) (y := ((c + 1 : Nat) : Int)) rfl (by omega) (lv' := [(5, .int (iI ((c + 1 : Nat) : Int))), (4, .int (iI ((c + 1 : Nat) : Int))), (2, .long U), (0, .ref b), (1, .int (iI (p : Int)))]) rfl) ?_
      refine pe_go (pc := 72) rfl s_goto ?_
      refine pe_few (lv := [(5, .int (iI ((c + 1 : Nat) : Int))), (4, .int (iI ((c + 1 : Nat) : Int))), (2, .long U), (0, .ref b), (1, .int (iI (p : Int)))]) rfl rfl (by intro q hq; simp only [List.mem_cons, List.not_mem_nil, or_false] at hq; rcases hq with rfl | rfl | rfl | rfl | rfl <;> rfl) ?_
      refine ih (c + 1) (by omega) (fun c9 h9 => ?_)
      by_cases e : c9 = c
      · rw [e]; assumption
      · exact hz c9 (by omega)
    · skip
      refine pe_go rfl (s_ifeq_false (eq_false_of_ne_true b1)) ?_
      refine pe_go (pc := 75) rfl (s_iload rfl) ?_
      refine pe_ret rfl s_reti ⟨rfl, c, rfl, by omega, fun q hq hn e => ?_, fun c9 h9 => (hU c9 (by omega)).mp (hz c9 h9)⟩
      have := (hU c (by omega)).mpr ⟨q, hq, hn, e⟩
      contradiction
theorem c_least {pre post : pW} {b : Nat} (hb : pre.length = b) {S : St} {pn : Nat → Int} {pb : Nat → Int64} {pc : Int} {rn : Nat → Int} {rb : Nat → Int64} {rc : Int} {cl : Nat → Int} {p : Nat} (hp : p < 40) (hcl : ∀ q : Nat, q < p → S.nr p q → 0 ≤ cl q ∧ cl q < 64) : qC 119 [.ref b, .int (iI (p : Int))] ((pre ++ oC (b + 1)) ++ (mB (b + 1) S ++ (oP (b + 1) pn pb pc rn rb rc cl ++ post))) (fun r w' => w' = (pre ++ oC (b + 1)) ++ (mB (b + 1) S ++ (oP (b + 1) pn pb pc rn rb rc cl ++ post)) ∧ ∃ c : Nat, r = some (.int (iI (c : Int))) ∧ c < 40 ∧ (∀ q : Nat, q < p → S.nr p q → cl q ≠ (c : Int)) ∧ ∀ c9 : Nat, c9 < c → ∃ q : Nat, q < p ∧ S.nr p q ∧ cl q = (c9 : Int)) := by
  refine pc_run (lv := [(0, .ref b), (1, .int (iI (p : Int)))]) rfl ?_
  refine pe_go (pc := 0) rfl s_lconst0 ?_
  refine pe_go (pc := 1) rfl (s_lstore_n (lv' := [(2, .long (lI 0)), (0, .ref b), (1, .int (iI (p : Int)))]) rfl) ?_
  refine pe_go (pc := 2) rfl (s_iconst (z := 0) rfl) ?_
  refine pe_go (pc := 3) rfl (s_istore (lv' := [(4, .int (iI 0)), (2, .long (lI 0)), (0, .ref b), (1, .int (iI (p : Int)))]) rfl) ?_
  refine pe_few (lv := [(4, .int (iI ((0 : Nat) : Int))), (2, .long (lI 0)), (0, .ref b), (1, .int (iI (p : Int)))]) rfl rfl (by intro q hq; simp only [List.mem_cons, List.not_mem_nil, or_false] at hq; rcases hq with rfl | rfl | rfl | rfl <;> rfl) ?_
  refine l_leastA hb hp hcl (fun U hU => ?_) p 0 (lI 0) (by omega) (fun c hc => ⟨fun z => (by rw [show lI 0 = (0 : Int64) from rfl, bt_0] at z; cases z), fun z => (by obtain ⟨q, q1, -⟩ := z; omega)⟩)
  refine pe_go (pc := 42) rfl (s_iconst (z := 0) rfl) ?_
  refine pe_go (pc := 43) rfl (s_istore (lv' := [(4, .int (iI 0)), (2, .long U), (0, .ref b), (1, .int (iI (p : Int)))]) rfl) ?_
  refine pe_go (pc := 45) rfl (s_iconst (z := 0) rfl) ?_
  refine pe_go (pc := 46) rfl (s_istore (lv' := [(5, .int (iI 0)), (4, .int (iI 0)), (2, .long U), (0, .ref b), (1, .int (iI (p : Int)))]) rfl) ?_
  refine pe_few (lv := [(5, .int (iI ((0 : Nat) : Int))), (4, .int (iI ((0 : Nat) : Int))), (2, .long U), (0, .ref b), (1, .int (iI (p : Int)))]) rfl rfl (by intro q hq; simp only [List.mem_cons, List.not_mem_nil, or_false] at hq; rcases hq with rfl | rfl | rfl | rfl | rfl <;> rfl) ?_
  exact l_leastB hb hp hcl hU 40 0 (by omega) (fun c9 h9 => absurd h9 (Nat.not_lt_zero _))
/-- how many colours: one more than the greatest -/
def colN (S : St) (cl : Nat → Int) (n : Nat) (k : Int) : Prop := 0 ≤ k ∧ k ≤ 40 ∧ (∀ p : Nat, p < n → S.has p → cl p + 1 ≤ k) ∧ (k = 0 ∨ ∃ p : Nat, p < n ∧ S.has p ∧ k = cl p + 1)
theorem colOk_put {S : St} {cl : Nat → Int} {p c : Nat} (h : colOk S cl p) (hc : c < 40) (h1 : ∀ q : Nat, q < p → S.nr p q → cl q ≠ (c : Int)) (h2 : ∀ c9 : Nat, c9 < c → ∃ q : Nat, q < p ∧ S.nr p q ∧ cl q = (c9 : Int)) : colOk S (uZ cl p (c : Int)) (p + 1) := by
  intro q hq sq
  by_cases e : q = p
  · subst e
    rw [uZ_at]
    refine ⟨by omega, by omega, fun r hr hn => ?_, fun c9 h9 => ?_⟩
    · rw [uZ_ne (by omega)]; exact h1 r hr hn
    · obtain ⟨r, r1, r2, r3⟩ := h2 c9 (by omega)
      exact ⟨r, r1, r2, by rw [uZ_ne (by omega)]; exact r3⟩
  · rw [uZ_ne e]
    obtain ⟨a1, a2, a3, a4⟩ := h q (by omega) sq
    refine ⟨a1, a2, fun r hr hn => ?_, fun c9 h9 => ?_⟩
    · rw [uZ_ne (by omega)]; exact a3 r hr hn
    · obtain ⟨r, r1, r2, r3⟩ := a4 c9 h9
      exact ⟨r, r1, r2, by rw [uZ_ne (by omega)]; exact r3⟩
theorem colOk_no {S : St} {cl : Nat → Int} {p : Nat} (h : colOk S cl p) (hn : ¬ S.has p) : colOk S cl (p + 1) := fun q hq sq => by
  by_cases e : q = p
  · exact absurd (e ▸ sq) hn
  · exact h q (by omega) sq
theorem l_paint {pre post : pW} {b : Nat} (hb : pre.length = b) {S : St} {pn : Nat → Int} {pb : Nat → Int64} {pc : Int} {rn : Nat → Int} {rb : Nat → Int64} {rc : Int} (hN : ∀ p q : Nat, p < 40 → q < 40 → S.nr p q → S.has q) : ∀ (d p : Nat) (k : Int) (cl : Nat → Int), p + d = 40 → colOk S cl p → colN S cl p k → qE 118 (4, [(2, .int (iI (p : Int))), (1, .int (iI k)), (0, .ref b)], [], (pre ++ oC (b + 1)) ++ (mB (b + 1) S ++ (oP (b + 1) pn pb pc rn rb rc cl ++ post))) (fun r w' => ∃ (cl' : Nat → Int) (k' : Int), r = some (.int (iI k')) ∧ colOk S cl' 40 ∧ colN S cl' 40 k' ∧ w' = (pre ++ oC (b + 1)) ++ (mB (b + 1) S ++ (oP (b + 1) pn pb pc rn rb rc cl' ++ post))) := by
  intro d
  induction d with
  | zero =>
    intro p k cl hp hC hK
    have hp40 : p = 40 := by omega
    subst hp40
    refine pe_go (pc := 4) rfl (s_iload_n rfl) ?_
    refine pe_go (pc := 5) rfl (s_bipush (z := 40) rfl) ?_
    refine pe_go rfl (s_icmp_ge_t ⟨by omega, by omega⟩ ⟨by decide, by decide⟩ (by decide)) ?_
    refine pe_go (pc := 54) rfl (s_iload_n rfl) ?_
    exact pe_ret rfl s_reti ⟨cl, k, rfl, hC, hK, rfl⟩
  | succ d ih =>
    intro p k cl hp hC hK
    obtain ⟨k1, k2, k3, k4⟩ := id hK
    refine pe_go (pc := 4) rfl (s_iload_n rfl) ?_
    refine pe_go (pc := 5) rfl (s_bipush (z := 40) rfl) ?_
    refine pe_go rfl (s_icmp_ge_f ⟨by omega, by omega⟩ ⟨by decide, by decide⟩ (by omega)) ?_
    refine pe_go (pc := 10) rfl (s_aload_n rfl) ?_
    refine pe_go (pc := 11) rfl (s_getf (v := .ref (b + 1)) (gO hb) rfl) ?_
    refine pe_go (pc := 14) rfl (s_getf (v := .ref (b + 1 + 1)) (gA0 (oC_len hb) (mB_0 _ _ _)) rfl) ?_
    refine pe_go (pc := 17) rfl (s_iload_n rfl) ?_
    refine pe_call rfl (s_invV rfl (gA (oC_len hb) (mB_1 _ _ _)) rfl rfl) (c_has (oC_len hb) S (p := p) (by omega)) ?_
    by_cases b1 : S.has p
    · skip
      refine pe_go rfl (s_ifeq_true (decide_eq_true b1)) ?_
      refine pe_go (pc := 24) rfl (s_aload_n rfl) ?_
      refine pe_go (pc := 25) rfl (s_getf (v := .ref (b + 1 + 55)) (gO hb) rfl) ?_
      refine pe_go (pc := 28) rfl (s_iload_n rfl) ?_
      refine pe_go (pc := 29) rfl (s_aload_n rfl) ?_
      refine pe_go (pc := 30) rfl (s_iload_n rfl) ?_
      refine pe_callE rfl (s_invV rfl (gO hb) rfl rfl) (c_least hb (p := p) (by omega) (fun q h9 n9 => by have := hC q h9 (hN p q (by omega) (by omega) n9); omega)) ?_
      rintro _ _ ⟨rfl, c2, rfl, hc2, ha2, hz2⟩
      refine pe_go (pc := 34) rfl (s_iast (n := 40) (f := cl) (w' := (pre ++ oC (b + 1)) ++ (mB (b + 1) S ++ (oP (b + 1) pn pb pc rn rb rc (uZ cl p (c2 : Int)) ++ post))) (gA (oC_len hb) oX_cl) (k := p) (by omega) (by omega) (by decide) (gS (oC_len hb) oX_s_cl)) ?_
      refine pe_go (pc := 35) rfl (s_iload_n rfl) ?_
      refine pe_go (pc := 36) rfl (s_aload_n rfl) ?_
      refine pe_go (pc := 37) rfl (s_getf (v := .ref (b + 1 + 55)) (gO hb) rfl) ?_
      refine pe_go (pc := 40) rfl (s_iload_n rfl) ?_
      refine pe_go (pc := 41) rfl (s_iald (n := 40) (f := uZ cl p (c2 : Int)) (v := (c2 : Int)) (gA (oC_len hb) oX_cl) (k := p) (by omega) (by omega) (by decide) (uZ_at _ _ _)) ?_
      refine pe_go (pc := 42) rfl (s_iconst (z := 1) rfl) ?_
      refine pe_go (pc := 43) rfl s_iadd ?_
      refine pe_call rfl (s_invS rfl rfl rfl) (c_max (x := k) (y := (c2 : Int) + 1) ⟨by omega, by omega⟩ ⟨by omega, by omega⟩) ?_
      refine pe_go (pc := 47) rfl (s_istore_n (lv' := [(1, .int (iI (zmax k ((c2 : Int) + 1)))), (2, .int (iI (p : Int))), (0, .ref b)]) rfl) ?_
      refine pe_go (pc := 48) rfl (s_iinc (x := (p : Int)) (y := ((p + 1 : Nat) : Int)) rfl (by omega) (lv' := [(2, .int (iI ((p + 1 : Nat) : Int))), (1, .int (iI (zmax k ((c2 : Int) + 1)))), (0, .ref b)]) rfl) ?_
      refine pe_go (pc := 51) rfl s_goto ?_
      refine pe_few (lv := [(2, .int (iI ((p + 1 : Nat) : Int))), (1, .int (iI (zmax k ((c2 : Int) + 1)))), (0, .ref b)]) rfl rfl (by intro q hq; simp only [List.mem_cons, List.not_mem_nil, or_false] at hq; rcases hq with rfl | rfl | rfl <;> rfl) ?_
      refine ih (p + 1) _ (uZ cl p (c2 : Int)) (by omega) (colOk_put hC hc2 ha2 hz2) ?_
      have hm : (zmax k ((c2 : Int) + 1) = k ∧ (c2 : Int) + 1 ≤ k) ∨ (zmax k ((c2 : Int) + 1) = (c2 : Int) + 1 ∧ k ≤ (c2 : Int) + 1) := by
        unfold zmax
        split <;> omega
      refine ⟨by omega, by omega, fun r hr sr => ?_, ?_⟩
      · by_cases e : r = p
        · subst e; rw [uZ_at]; omega
        · rw [uZ_ne e]; have := k3 r (by omega) sr; omega
      · rcases hm with ⟨m1, m2⟩ | ⟨m1, m2⟩
        · rcases k4 with z | ⟨r, r1, r2, r3⟩
          · omega
          · refine Or.inr ⟨r, by omega, r2, ?_⟩
            rw [uZ_ne (by omega), m1]; exact r3
        · exact Or.inr ⟨p, by omega, by assumption, by rw [uZ_at]; exact m1⟩
    · skip
      refine pe_go rfl (s_ifeq_false (decide_eq_false b1)) ?_
      refine pe_go (pc := 48) rfl (s_iinc (x := (p : Int)) (y := ((p + 1 : Nat) : Int)) rfl (by omega) (lv' := [(2, .int (iI ((p + 1 : Nat) : Int))), (1, .int (iI k)), (0, .ref b)]) rfl) ?_
      refine pe_go (pc := 51) rfl s_goto ?_
      refine pe_few (lv := [(2, .int (iI ((p + 1 : Nat) : Int))), (1, .int (iI k)), (0, .ref b)]) rfl rfl (by intro q hq; simp only [List.mem_cons, List.not_mem_nil, or_false] at hq; rcases hq with rfl | rfl | rfl <;> rfl) ?_
      refine ih (p + 1) k cl (by omega) (colOk_no hC (by assumption)) ⟨k1, k2, fun r hr sr => ?_, ?_⟩
      · by_cases e : r = p
        · subst e; contradiction
        · exact k3 r (by omega) sr
      · exact k4.imp id (fun ⟨r, r1, r2, r3⟩ => ⟨r, by omega, r2, r3⟩)
theorem c_paint {pre post : pW} {b : Nat} (hb : pre.length = b) {S : St} {pn : Nat → Int} {pb : Nat → Int64} {pc : Int} {rn : Nat → Int} {rb : Nat → Int64} {rc : Int} {cl : Nat → Int} (hN : ∀ p q : Nat, p < 40 → q < 40 → S.nr p q → S.has q) : qC 118 [.ref b] ((pre ++ oC (b + 1)) ++ (mB (b + 1) S ++ (oP (b + 1) pn pb pc rn rb rc cl ++ post))) (fun r w' => ∃ (cl' : Nat → Int) (k' : Int), r = some (.int (iI k')) ∧ colOk S cl' 40 ∧ colN S cl' 40 k' ∧ w' = (pre ++ oC (b + 1)) ++ (mB (b + 1) S ++ (oP (b + 1) pn pb pc rn rb rc cl' ++ post))) := by
  refine pc_run (lv := [(0, .ref b)]) rfl ?_
  refine pe_go (pc := 0) rfl (s_iconst (z := 0) rfl) ?_
  refine pe_go (pc := 1) rfl (s_istore_n (lv' := [(1, .int (iI 0)), (0, .ref b)]) rfl) ?_
  refine pe_go (pc := 2) rfl (s_iconst (z := 0) rfl) ?_
  refine pe_go (pc := 3) rfl (s_istore_n (lv' := [(2, .int (iI 0)), (1, .int (iI 0)), (0, .ref b)]) rfl) ?_
  refine pe_few (lv := [(2, .int (iI ((0 : Nat) : Int))), (1, .int (iI 0)), (0, .ref b)]) rfl rfl (by intro q hq; simp only [List.mem_cons, List.not_mem_nil, or_false] at hq; rcases hq with rfl | rfl | rfl <;> rfl) ?_
  exact l_paint hb hN 40 0 0 cl (by omega) (fun q hq => absurd hq (Nat.not_lt_zero _)) ⟨Int.le_refl _, by decide, fun q hq => absurd hq (Nat.not_lt_zero _), Or.inl rfl⟩
theorem St.Ok.nr {S : St} (h : S.Ok) : ∀ p q : Nat, p < 40 → q < 40 → S.nr p q → S.has q := fun p q hp hq hn => by
  rcases (St.near_E h.M.1.PM h.2.1 hp hq).mp hn with z | z
  · exact (St.E_has h.M.1.PM hp hq z).2
  · exact (St.E_has h.M.1.PM hq hp z).1
theorem o_is12 {pre post : pW} {b : Nat} (hb : pre.length = b) {S : St} {L M : List St} {K : St} {w : pW} (hO : OB pre post b S L M K w)  : qC 105 [.ref b, .int (iI 12)] w (fun r w' => ∃ (cl : Nat → Int) (k : Int), r = some (.int (iI k)) ∧ colOk S cl 40 ∧ colN S cl 40 k ∧ OB pre post b S L M K w') := by
  obtain ⟨hS, hLo, hLl, hMo, hMl, pn, pb, rn, rb, cl, kp, kr, rfl⟩ := hO
  refine pc_run (lv := [(0, .ref b), (1, .int (iI 12))]) rfl ?_
  refine pe_go (pc := 0) rfl (s_iload_n rfl) ?_
  refine pe_go (pc := 1) rfl (s_tabK (z := 12) (t1 := 159) (by decide) (by decide) (by decide) rfl) ?_
  refine pe_go (pc := 159) rfl (s_aload_n rfl) ?_
  refine pe_callE rfl (s_invV rfl (gO hb) rfl rfl) (c_paint hb hS.nr) ?_
  rintro _ _ ⟨cl1, k1, rfl, hC1, hK1, rfl⟩
  exact pe_ret rfl s_reti ⟨cl1, k1, rfl, hC1, hK1, OB_at hS hLo hLl hMo hMl kp kr⟩
theorem o_colour {pre post : pW} {b : Nat} (hb : pre.length = b) {S : St} {L M : List St} {K : St} {w : pW} (hO : OB pre post b S L M K w) {p : Nat} (hp : p < 40) (sp : S.has p) : qC 117 [.ref b, .int (iI (p : Int))] w (fun r w' => ∃ cl : Nat → Int, r = some (.int (iI (cl p))) ∧ colOk S cl 40 ∧ OB pre post b S L M K w') := by
  obtain ⟨hS, hLo, hLl, hMo, hMl, pn, pb, rn, rb, cl, kp, kr, rfl⟩ := hO
  refine pc_run (lv := [(0, .ref b), (1, .int (iI (p : Int)))]) rfl ?_
  refine pe_go (pc := 0) rfl (s_aload_n rfl) ?_
  refine pe_go (pc := 1) rfl (s_getf (v := .ref (b + 1)) (gO hb) rfl) ?_
  refine pe_go (pc := 4) rfl (s_getf (v := .ref (b + 1 + 1)) (gA0 (oC_len hb) (mB_0 _ _ _)) rfl) ?_
  refine pe_go (pc := 7) rfl (s_iload_n rfl) ?_
  refine pe_call rfl (s_invV rfl (gA (oC_len hb) (mB_1 _ _ _)) rfl rfl) (c_has (oC_len hb) S hp) ?_
  refine pe_go rfl (s_ifne_true (decide_eq_true sp)) ?_
  refine pe_go (pc := 16) rfl (s_aload_n rfl) ?_
  refine pe_callE rfl (s_invV rfl (gO hb) rfl rfl) (c_paint hb hS.nr) ?_
  rintro _ _ ⟨cl1, k1, rfl, hC1, hK1, rfl⟩
  refine pe_go (pc := 20) rfl (s_pop rfl) ?_
  refine pe_go (pc := 21) rfl (s_aload_n rfl) ?_
  refine pe_go (pc := 22) rfl (s_getf (v := .ref (b + 1 + 55)) (gO hb) rfl) ?_
  refine pe_go (pc := 25) rfl (s_iload_n rfl) ?_
  refine pe_go (pc := 26) rfl (s_iald (n := 40) (f := cl1) (v := cl1 p) (gA (oC_len hb) oX_cl) (k := p) (by omega) (by omega) (by decide) rfl) ?_
  exact pe_ret rfl s_reti ⟨cl1, rfl, hC1, OB_at hS hLo hLl hMo hMl kp kr⟩
