/-! THE CLASS: what was told, searched; small methods of the JDK. Rows laid by program (wip/p63/wk.py, mk31.py). -/
def St.atF (S : St) (x y : Int) : Nat → Nat → Int
  | 0, _ => -1
  | n + 1, p => if S.has p ∧ S.xs p = x ∧ S.ys p = y then (p : Int) else S.atF x y n (p + 1)
def St.atP (S : St) (x y : Int) : Int := S.atF x y 40 0
def St.luF (S : St) : Nat → Nat → Int
  | 0, _ => -1
  | n + 1, p => if ¬ S.has p then (p : Int) else S.luF n (p + 1)
def St.lu (S : St) : Int := S.luF 36 4
theorem St.atF_pos {S : St} {x y : Int} {n p : Nat} (h1 : S.has p) (h2 : S.xs p = x) (h3 : S.ys p = y) : S.atF x y (n + 1) p = (p : Int) := if_pos ⟨h1, h2, h3⟩
theorem St.atF_neg {S : St} {x y : Int} {n p : Nat} (hz : ¬ (S.has p ∧ S.xs p = x ∧ S.ys p = y)) : S.atF x y (n + 1) p = S.atF x y n (p + 1) := if_neg hz
theorem St.luF_pos {S : St} {n p : Nat} (h1 : ¬ S.has p) : S.luF (n + 1) p = (p : Int) := if_pos h1
theorem St.luF_neg {S : St} {n p : Nat} (h1 : S.has p) : S.luF (n + 1) p = S.luF n (p + 1) := if_neg (fun z => z h1)
theorem l_atPlace {pre post : pW} {m : Nat} (hm : pre.length = m) (S : St) {x y : Int} (hx : sm x) (hy : sm y) (h : S.inB) : ∀ (n p : Nat), p + n = 40 → qE 68 (2, [(3, .int (iI (p : Int))), (0, .ref (m + 1)), (1, .int (iI x)), (2, .int (iI y))], [], (pre ++ (mB m S ++ post))) (fun r' w' => r' = (some (.int (iI (S.atF x y n p)))) ∧ w' = (pre ++ (mB m S ++ post))) := by
  intro n
  induction n with
  | zero =>
    intro p hp
    refine pe_go (pc := 2) rfl (s_iload_n rfl) ?_
    refine pe_go (pc := 3) rfl (s_bipush (z := 40) rfl) ?_
    refine pe_go rfl (s_icmp_ge_t ⟨by omega, by omega⟩ ⟨by decide, by decide⟩ (by omega)) ?_
    refine pe_go (pc := 44) rfl (s_iconst (z := -1) rfl) ?_
    exact pe_ret rfl s_reti ⟨rfl, rfl⟩
  | succ n ih =>
    intro p hp
    refine pe_go (pc := 2) rfl (s_iload_n rfl) ?_
    refine pe_go (pc := 3) rfl (s_bipush (z := 40) rfl) ?_
    refine pe_go rfl (s_icmp_ge_f ⟨by omega, by omega⟩ ⟨by decide, by decide⟩ (by omega)) ?_
    refine pe_go (pc := 8) rfl (s_aload_n rfl) ?_
    refine pe_go (pc := 9) rfl (s_iload_n rfl) ?_
    refine pe_call rfl (s_invV rfl (gA hm (mB_1 _ _ _)) rfl rfl) (c_has hm S (by omega : p < 40)) ?_
    by_cases b1 : S.has p
    · skip
      refine pe_go rfl (s_ifeq_true (decide_eq_true b1)) ?_
      refine pe_go (pc := 16) rfl (s_aload_n rfl) ?_
      refine pe_go (pc := 17) rfl (s_getf (v := .ref (m + 2)) (gA hm (mB_1 _ _ _)) rfl) ?_
      refine pe_go (pc := 20) rfl (s_iload_n rfl) ?_
      refine pe_go (pc := 21) rfl (s_iald (n := 40) (f := S.xs) (v := S.xs p) (gA hm (mB_xs _ _ _)) (k := p) (by omega) (by omega) (by decide) rfl) ?_
      refine pe_go (pc := 22) rfl (s_iload_n rfl) ?_
      by_cases c2 : (S.xs p) = x
      · skip
        refine pe_go rfl (s_icmp_ne_f (by have := h p (by omega); exact ⟨by omega, by omega⟩) hx (fun e => e c2)) ?_
        refine pe_go (pc := 26) rfl (s_aload_n rfl) ?_
        refine pe_go (pc := 27) rfl (s_getf (v := .ref (m + 3)) (gA hm (mB_1 _ _ _)) rfl) ?_
        refine pe_go (pc := 30) rfl (s_iload_n rfl) ?_
        refine pe_go (pc := 31) rfl (s_iald (n := 40) (f := S.ys) (v := S.ys p) (gA hm (mB_ys _ _ _)) (k := p) (by omega) (by omega) (by decide) rfl) ?_
        refine pe_go (pc := 32) rfl (s_iload_n rfl) ?_
        by_cases c3 : (S.ys p) = y
        · skip
          refine pe_go rfl (s_icmp_ne_f (by have := h p (by omega); exact ⟨by omega, by omega⟩) hy (fun e => e c3)) ?_
          refine pe_go (pc := 36) rfl (s_iload_n rfl) ?_
          exact pe_ret rfl s_reti ⟨by rw [St.atF_pos (by assumption) (by assumption) (by assumption)], rfl⟩
        · skip
          refine pe_go rfl (s_icmp_ne_t (by have := h p (by omega); exact ⟨by omega, by omega⟩) hy c3) ?_
          refine pe_go (pc := 38) rfl (s_iinc (x := (p : Int)) (y := ((p + 1 : Nat) : Int)) rfl (by omega) (lv' := [(3, .int (iI ((p + 1 : Nat) : Int))), (0, .ref (m + 1)), (1, .int (iI x)), (2, .int (iI y))]) rfl) ?_
          refine pe_go (pc := 41) rfl s_goto ?_
          rw [St.atF_neg (by rintro ⟨z1, z2, z3⟩; first | exact absurd z1 (by assumption) | exact absurd z2 (by assumption) | exact absurd z3 (by assumption))]
          exact ih (p + 1) (by omega)
      · skip
        refine pe_go rfl (s_icmp_ne_t (by have := h p (by omega); exact ⟨by omega, by omega⟩) hx c2) ?_
        refine pe_go (pc := 38) rfl (s_iinc (x := (p : Int)) (y := ((p + 1 : Nat) : Int)) rfl (by omega) (lv' := [(3, .int (iI ((p + 1 : Nat) : Int))), (0, .ref (m + 1)), (1, .int (iI x)), (2, .int (iI y))]) rfl) ?_
        refine pe_go (pc := 41) rfl s_goto ?_
        rw [St.atF_neg (by rintro ⟨z1, z2, z3⟩; first | exact absurd z1 (by assumption) | exact absurd z2 (by assumption) | exact absurd z3 (by assumption))]
        exact ih (p + 1) (by omega)
    · skip
      refine pe_go rfl (s_ifeq_false (decide_eq_false b1)) ?_
      refine pe_go (pc := 38) rfl (s_iinc (x := (p : Int)) (y := ((p + 1 : Nat) : Int)) rfl (by omega) (lv' := [(3, .int (iI ((p + 1 : Nat) : Int))), (0, .ref (m + 1)), (1, .int (iI x)), (2, .int (iI y))]) rfl) ?_
      refine pe_go (pc := 41) rfl s_goto ?_
      rw [St.atF_neg (by rintro ⟨z1, z2, z3⟩; first | exact absurd z1 (by assumption) | exact absurd z2 (by assumption) | exact absurd z3 (by assumption))]
      exact ih (p + 1) (by omega)
theorem c_atPlace {pre post : pW} {m : Nat} (hm : pre.length = m) (S : St) {x y : Int} (hx : sm x) (hy : sm y) (h : S.inB) : pRun 68 [.ref (m + 1), .int (iI x), .int (iI y)] (pre ++ (mB m S ++ post)) (some (.int (iI (S.atP x y)))) (pre ++ (mB m S ++ post)) := by
  refine qx_run ?_
  refine pc_run (lv := [(0, .ref (m + 1)), (1, .int (iI x)), (2, .int (iI y))]) rfl ?_
  refine pe_go (pc := 0) rfl (s_iconst (z := 0) rfl) ?_
  refine pe_go (pc := 1) rfl (s_istore_n (lv' := [(3, .int (iI 0)), (0, .ref (m + 1)), (1, .int (iI x)), (2, .int (iI y))]) rfl) ?_
  exact l_atPlace hm S hx hy h 40 0 rfl
theorem l_lu {pre post : pW} {m : Nat} (hm : pre.length = m) (S : St)  : ∀ (n p : Nat), p + n = 40 → qE 69 (2, [(1, .int (iI (p : Int))), (0, .ref (m + 1))], [], (pre ++ (mB m S ++ post))) (fun r' w' => r' = (some (.int (iI (S.luF n p)))) ∧ w' = (pre ++ (mB m S ++ post))) := by
  intro n
  induction n with
  | zero =>
    intro p hp
    refine pe_go (pc := 2) rfl (s_iload_n rfl) ?_
    refine pe_go (pc := 3) rfl (s_bipush (z := 40) rfl) ?_
    refine pe_go rfl (s_icmp_ge_t ⟨by omega, by omega⟩ ⟨by decide, by decide⟩ (by omega)) ?_
    refine pe_go (pc := 24) rfl (s_iconst (z := -1) rfl) ?_
    exact pe_ret rfl s_reti ⟨rfl, rfl⟩
  | succ n ih =>
    intro p hp
    refine pe_go (pc := 2) rfl (s_iload_n rfl) ?_
    refine pe_go (pc := 3) rfl (s_bipush (z := 40) rfl) ?_
    refine pe_go rfl (s_icmp_ge_f ⟨by omega, by omega⟩ ⟨by decide, by decide⟩ (by omega)) ?_
    refine pe_go (pc := 8) rfl (s_aload_n rfl) ?_
    refine pe_go (pc := 9) rfl (s_iload_n rfl) ?_
    refine pe_call rfl (s_invV rfl (gA hm (mB_1 _ _ _)) rfl rfl) (c_has hm S (by omega : p < 40)) ?_
    by_cases b1 : S.has p
    · skip
      refine pe_go rfl (s_ifne_true (decide_eq_true b1)) ?_
      refine pe_go (pc := 18) rfl (s_iinc (x := (p : Int)) (y := ((p + 1 : Nat) : Int)) rfl (by omega) (lv' := [(1, .int (iI ((p + 1 : Nat) : Int))), (0, .ref (m + 1))]) rfl) ?_
      refine pe_go (pc := 21) rfl s_goto ?_
      rw [St.luF_neg (by assumption)]
      exact ih (p + 1) (by omega)
    · skip
      refine pe_go rfl (s_ifne_false (decide_eq_false b1)) ?_
      refine pe_go (pc := 16) rfl (s_iload_n rfl) ?_
      exact pe_ret rfl s_reti ⟨by rw [St.luF_pos (by assumption)], rfl⟩
theorem c_lu {pre post : pW} {m : Nat} (hm : pre.length = m) (S : St)  : pRun 69 [.ref (m + 1)] (pre ++ (mB m S ++ post)) (some (.int (iI S.lu))) (pre ++ (mB m S ++ post)) := by
  refine qx_run ?_
  refine pc_run (lv := [(0, .ref (m + 1))]) rfl ?_
  refine pe_go (pc := 0) rfl (s_iconst (z := 4) rfl) ?_
  refine pe_go (pc := 1) rfl (s_istore_n (lv' := [(1, .int (iI 4)), (0, .ref (m + 1))]) rfl) ?_
  exact l_lu hm S 36 4 rfl
theorem St.atF_ge (S : St) (x y : Int) : ∀ (n p : Nat), (S.atF x y n p = -1 ∧ ∀ q, p ≤ q → q < p + n → ¬ (S.has q ∧ S.xs q = x ∧ S.ys q = y)) ∨ ∃ q : Nat, p ≤ q ∧ q < p + n ∧ S.atF x y n p = (q : Int) ∧ S.has q ∧ S.xs q = x ∧ S.ys q = y := by
  intro n
  induction n with
  | zero => intro p; exact Or.inl ⟨rfl, fun q h1 h2 => by omega⟩
  | succ n ih =>
    intro p
    by_cases c0 : S.has p ∧ S.xs p = x ∧ S.ys p = y
    · exact Or.inr ⟨p, by omega, by omega, if_pos c0, c0.1, c0.2.1, c0.2.2⟩
    · rw [St.atF_neg c0]
      rcases ih (p + 1) with ⟨h1, h2⟩ | ⟨q, h1, h2, h3⟩
      · refine Or.inl ⟨h1, fun q g1 g2 => ?_⟩
        rcases Nat.eq_or_lt_of_le g1 with g | g
        · subst g; exact c0
        · exact h2 q (by omega) (by omega)
      · exact Or.inr ⟨q, by omega, by omega, h3⟩
theorem St.atP_cases (S : St) (x y : Int) : (S.atP x y = -1 ∧ ∀ q, q < 40 → ¬ (S.has q ∧ S.xs q = x ∧ S.ys q = y)) ∨ ∃ q : Nat, q < 40 ∧ S.atP x y = (q : Int) ∧ S.has q ∧ S.xs q = x ∧ S.ys q = y := by
  rcases S.atF_ge x y 40 0 with ⟨h1, h2⟩ | ⟨q, h1, h2, h3⟩
  · exact Or.inl ⟨h1, fun q g => h2 q (by omega) (by omega)⟩
  · exact Or.inr ⟨q, by omega, h3⟩
theorem St.luF_ge (S : St) : ∀ (n p : Nat), (S.luF n p = -1 ∧ ∀ q, p ≤ q → q < p + n → S.has q) ∨ ∃ q : Nat, p ≤ q ∧ q < p + n ∧ S.luF n p = (q : Int) ∧ ¬ S.has q ∧ ∀ r, p ≤ r → r < q → S.has r := by
  intro n
  induction n with
  | zero => intro p; exact Or.inl ⟨rfl, fun q h1 h2 => by omega⟩
  | succ n ih =>
    intro p
    by_cases c0 : S.has p
    · rw [St.luF_neg c0]
      rcases ih (p + 1) with ⟨h1, h2⟩ | ⟨q, h1, h2, h3, h4, h5⟩
      · refine Or.inl ⟨h1, fun q g1 g2 => ?_⟩
        rcases Nat.eq_or_lt_of_le g1 with g | g
        · subst g; exact c0
        · exact h2 q (by omega) (by omega)
      · refine Or.inr ⟨q, by omega, by omega, h3, h4, fun r g1 g2 => ?_⟩
        rcases Nat.eq_or_lt_of_le g1 with g | g
        · subst g; exact c0
        · exact h5 r (by omega) g2
    · exact Or.inr ⟨p, by omega, by omega, St.luF_pos c0, c0, fun r g1 g2 => by omega⟩
theorem St.lu_cases (S : St) : (S.lu = -1 ∧ ∀ q : Nat, 4 ≤ q → q < 40 → S.has q) ∨ ∃ q : Nat, 4 ≤ q ∧ q < 40 ∧ S.lu = (q : Int) ∧ ¬ S.has q ∧ ∀ r : Nat, 4 ≤ r → r < q → S.has r := by
  rcases S.luF_ge 36 4 with ⟨h1, h2⟩ | ⟨q, h1, h2, h3⟩
  · exact Or.inl ⟨h1, fun q g1 g2 => h2 q g1 (by omega)⟩
  · exact Or.inr ⟨q, h1, by omega, h3⟩
theorem St.atP_b (S : St) (x y : Int) : -1 ≤ S.atP x y ∧ S.atP x y < 40 := by
  rcases S.atP_cases x y with ⟨h1, _⟩ | ⟨q, h1, h2, _⟩ <;> omega
theorem St.lu_b (S : St) : -1 ≤ S.lu ∧ S.lu < 40 := by
  rcases S.lu_cases with ⟨h1, _⟩ | ⟨q, h1, h2, h3, _⟩ <;> omega
abbrev St.takes (S : St) (x y : Int) : Prop := inSq x y ∧ S.atP x y = -1 ∧ S.lu ≠ -1
theorem c_takes {pre post : pW} {m : Nat} (hm : pre.length = m) (S : St) {x y : Int} (hx : sm x) (hy : sm y) (h : S.inB) : pRun 70 [.ref (m + 1), .int (iI x), .int (iI y)] (pre ++ (mB m S ++ post)) (some (.int (bI (decide (S.takes x y))))) (pre ++ (mB m S ++ post)) := by
  refine qx_run ?_
  refine pc_run (lv := [(0, .ref (m + 1)), (1, .int (iI x)), (2, .int (iI y))]) rfl ?_
  refine pe_go (pc := 0) rfl (s_iload_n rfl) ?_
  refine pe_go (pc := 1) rfl (s_iload_n rfl) ?_
  refine pe_call rfl (s_invN rfl rfl rfl) (c_inSq hx hy) ?_
  by_cases b1 : inSq x y
  · skip
    refine pe_go rfl (s_ifeq_true (decide_eq_true b1)) ?_
    refine pe_go (pc := 8) rfl (s_aload_n rfl) ?_
    refine pe_go (pc := 9) rfl (s_iload_n rfl) ?_
    refine pe_go (pc := 10) rfl (s_iload_n rfl) ?_
    refine pe_call rfl (s_invV rfl (gA hm (mB_1 _ _ _)) rfl rfl) (c_atPlace hm S hx hy h) ?_
    refine pe_go (pc := 14) rfl (s_iconst (z := -1) rfl) ?_
    by_cases c2 : (S.atP x y) = (-1)
    · skip
      refine pe_go rfl (s_icmp_ne_f (by have := S.atP_b x y; exact ⟨by omega, by omega⟩) ⟨by decide, by decide⟩ (fun e => e c2)) ?_
      refine pe_go (pc := 18) rfl (s_aload_n rfl) ?_
      refine pe_call rfl (s_invV rfl (gA hm (mB_1 _ _ _)) rfl rfl) (c_lu hm S) ?_
      refine pe_go (pc := 22) rfl (s_iconst (z := -1) rfl) ?_
      by_cases c3 : S.lu = (-1)
      · skip
        refine pe_go rfl (s_icmp_eq_t (by have := S.lu_b; exact ⟨by omega, by omega⟩) ⟨by decide, by decide⟩ c3) ?_
        refine pe_go (pc := 30) rfl (s_iconst (z := 0) rfl) ?_
        exact pe_ret rfl s_ret0 ⟨by rw [decide_eq_false (show ¬ (S.takes x y) from (by rintro ⟨z1, z2, z3⟩; first | exact absurd z1 (by assumption) | exact absurd z2 (by assumption) | exact absurd (by assumption) z3))], rfl⟩
      · skip
        refine pe_go rfl (s_icmp_eq_f (by have := S.lu_b; exact ⟨by omega, by omega⟩) ⟨by decide, by decide⟩ c3) ?_
        refine pe_go (pc := 26) rfl (s_iconst (z := 1) rfl) ?_
        refine pe_go (pc := 27) rfl s_goto ?_
        exact pe_ret rfl s_ret1 ⟨by rw [decide_eq_true (show S.takes x y from ⟨by assumption, by assumption, by assumption⟩)], rfl⟩
    · skip
      refine pe_go rfl (s_icmp_ne_t (by have := S.atP_b x y; exact ⟨by omega, by omega⟩) ⟨by decide, by decide⟩ c2) ?_
      refine pe_go (pc := 30) rfl (s_iconst (z := 0) rfl) ?_
      exact pe_ret rfl s_ret0 ⟨by rw [decide_eq_false (show ¬ (S.takes x y) from (by rintro ⟨z1, z2, z3⟩; first | exact absurd z1 (by assumption) | exact absurd z2 (by assumption) | exact absurd (by assumption) z3))], rfl⟩
  · skip
    refine pe_go rfl (s_ifeq_false (decide_eq_false b1)) ?_
    refine pe_go (pc := 30) rfl (s_iconst (z := 0) rfl) ?_
    exact pe_ret rfl s_ret0 ⟨by rw [decide_eq_false (show ¬ (S.takes x y) from (by rintro ⟨z1, z2, z3⟩; first | exact absurd z1 (by assumption) | exact absurd z2 (by assumption) | exact absurd (by assumption) z3))], rfl⟩
theorem c_draw {pre post : pW} {m : Nat} (hm : pre.length = m) (S : St) {y : Int} (hy : 1 ≤ y ∧ y ≤ 1000) (hg : 0 ≤ S.g ∧ S.g < 30047) : pRun 76 [.ref (m + 1), .int (iI y)] (pre ++ (mB m S ++ post)) (some (.int (iI ((S.g * 827 + 641) % 30047 % (2 * y + 1) - y)))) (pre ++ (mB m (S.u_g ((S.g * 827 + 641) % 30047)) ++ post)) := by
  refine qx_run ?_
  refine pc_run (lv := [(0, .ref (m + 1)), (1, .int (iI y))]) rfl ?_
  refine pe_go (pc := 0) rfl (s_aload_n rfl) ?_
  refine pe_go (pc := 1) rfl (s_aload_n rfl) ?_
  refine pe_go (pc := 2) rfl (s_getf (v := .int (iI S.g)) (gA hm (mB_1 _ _ _)) rfl) ?_
  refine pe_go (pc := 5) rfl (s_sipush (z := 827) rfl) ?_
  refine pe_go (pc := 8) rfl s_imul ?_
  refine pe_go (pc := 9) rfl (s_sipush (z := 641) rfl) ?_
  refine pe_go (pc := 12) rfl s_iadd ?_
  refine pe_go (pc := 13) rfl (s_sipush (z := 30047) rfl) ?_
  refine pe_go (pc := 16) rfl (s_irem ⟨by omega, by omega⟩ ⟨by decide, by decide⟩ (by decide) (by omega) (Int.tmod_eq_emod_of_nonneg (by omega))) ?_
  refine pe_go (pc := 17) rfl (s_putf (w' := pre ++ (mB m (S.u_g (((S.g * 827) + 641) % 30047)) ++ post)) (gA hm (mB_1 _ _ _)) (Nat.le_of_ble_eq_true rfl) rfl (gS hm (mB_s_g _ _ _ _))) ?_
  refine pe_go (pc := 20) rfl (s_iconst (z := 2) rfl) ?_
  refine pe_go (pc := 21) rfl (s_iload_n rfl) ?_
  refine pe_go (pc := 22) rfl s_imul ?_
  refine pe_go (pc := 23) rfl (s_iconst (z := 1) rfl) ?_
  refine pe_go (pc := 24) rfl s_iadd ?_
  refine pe_go (pc := 25) rfl (s_istore_n (lv' := [(2, .int (iI ((2 * y) + 1))), (0, .ref (m + 1)), (1, .int (iI y))]) rfl) ?_
  refine pe_go (pc := 26) rfl (s_iload_n rfl) ?_
  refine pe_go rfl (s_if_le_f ⟨by omega, by omega⟩ (by omega)) ?_
  refine pe_go (pc := 30) rfl (s_aload_n rfl) ?_
  refine pe_go (pc := 31) rfl (s_getf (v := .int (iI (((S.g * 827) + 641) % 30047))) (gA hm (mB_1 _ _ _)) rfl) ?_
  refine pe_go (pc := 34) rfl (s_iload_n rfl) ?_
  refine pe_go (pc := 35) rfl (s_irem ⟨by omega, by omega⟩ ⟨by omega, by omega⟩ (by omega) (by omega) (Int.tmod_eq_emod_of_nonneg (by omega))) ?_
  refine pe_go (pc := 36) rfl (s_iload_n rfl) ?_
  refine pe_go (pc := 37) rfl s_isub ?_
  refine pe_go (pc := 38) rfl s_goto ?_
  exact pe_ret rfl s_reti ⟨rfl, rfl⟩
def zabs (x : Int) : Int := if x < 0 then -x else x
theorem zabs_n {x : Int} (hz : x < 0) : zabs x = -x := if_pos hz
theorem zabs_p {x : Int} (hz : ¬ x < 0) : zabs x = x := if_neg hz
def zmax (x y : Int) : Int := if x < y then y else x
def zmin (x y : Int) : Int := if y < x then y else x
theorem c_abs {w : pW} {x : Int} (hx : sm x) : pRun 139 [.int (iI x)] w (some (.int (iI (zabs x)))) w := by
  refine qx_run ?_
  refine pc_run (lv := [(0, .int (iI x))]) rfl ?_
  refine pe_go (pc := 0) rfl (s_iload_n rfl) ?_
  by_cases c1 : 0 ≤ x
  · skip
    refine pe_go rfl (s_if_ge_t ⟨by omega, by omega⟩ c1) ?_
    refine pe_go (pc := 9) rfl (s_iload_n rfl) ?_
    exact pe_ret rfl s_reti ⟨by rw [zabs_p (by omega)], rfl⟩
  · skip
    refine pe_go rfl (s_if_ge_f ⟨by omega, by omega⟩ c1) ?_
    refine pe_go (pc := 4) rfl (s_iload_n rfl) ?_
    refine pe_go (pc := 5) rfl s_ineg ?_
    refine pe_go (pc := 6) rfl s_goto ?_
    exact pe_ret rfl s_reti ⟨by rw [zabs_n (by omega)], rfl⟩
theorem c_max {w : pW} {x y : Int} (hx : sm x) (hy : sm y) : pRun 140 [.int (iI x), .int (iI y)] w (some (.int (iI (zmax x y)))) w := by
  refine qx_run ?_
  refine pc_run (lv := [(0, .int (iI x)), (1, .int (iI y))]) rfl ?_
  refine pe_go (pc := 0) rfl (s_iload_n rfl) ?_
  refine pe_go (pc := 1) rfl (s_iload_n rfl) ?_
  by_cases c1 : x < y
  · skip
    refine pe_go rfl (s_icmp_lt_t ⟨by omega, by omega⟩ ⟨by omega, by omega⟩ c1) ?_
    refine pe_go (pc := 9) rfl (s_iload_n rfl) ?_
    refine pe_ret rfl s_reti ⟨?_, rfl⟩
    unfold zmax
    first | rw [if_pos (by omega)] | rw [if_neg (by omega)]
  · skip
    refine pe_go rfl (s_icmp_lt_f ⟨by omega, by omega⟩ ⟨by omega, by omega⟩ c1) ?_
    refine pe_go (pc := 5) rfl (s_iload_n rfl) ?_
    refine pe_go (pc := 6) rfl s_goto ?_
    refine pe_ret rfl s_reti ⟨?_, rfl⟩
    unfold zmax
    first | rw [if_pos (by omega)] | rw [if_neg (by omega)]
theorem c_min {w : pW} {x y : Int} (hx : sm x) (hy : sm y) : pRun 142 [.int (iI x), .int (iI y)] w (some (.int (iI (zmin x y)))) w := by
  refine qx_run ?_
  refine pc_run (lv := [(0, .int (iI x)), (1, .int (iI y))]) rfl ?_
  refine pe_go (pc := 0) rfl (s_iload_n rfl) ?_
  refine pe_go (pc := 1) rfl (s_iload_n rfl) ?_
  by_cases c1 : y < x
  · skip
    refine pe_go rfl (s_icmp_gt_t ⟨by omega, by omega⟩ ⟨by omega, by omega⟩ c1) ?_
    refine pe_go (pc := 9) rfl (s_iload_n rfl) ?_
    refine pe_ret rfl s_reti ⟨?_, rfl⟩
    unfold zmin
    first | rw [if_pos (by omega)] | rw [if_neg (by omega)]
  · skip
    refine pe_go rfl (s_icmp_gt_f ⟨by omega, by omega⟩ ⟨by omega, by omega⟩ c1) ?_
    refine pe_go (pc := 5) rfl (s_iload_n rfl) ?_
    refine pe_go (pc := 6) rfl s_goto ?_
    refine pe_ret rfl s_reti ⟨?_, rfl⟩
    unfold zmin
    first | rw [if_pos (by omega)] | rw [if_neg (by omega)]
