/-! THE CLASS: rounds about a point, longest sides, counts. Rows laid by program (wip/p63/wk.py, mk36.py). -/
/-- the first of a round: the first that begins a round of the border, or else the first neighbour -/
def St.frF (S : St) (a : Nat) : Nat → Nat → Int → Int
  | 0, _, r => r
  | n + 1, b, r => if bt (S.ne a) b = true then (if S.ap (b * 40 + a) = -1 then (b : Int) else S.frF a n (b + 1) (if r = -1 then (b : Int) else r)) else S.frF a n (b + 1) r
theorem St.frF_no {S : St} {a n b : Nat} {r : Int} (hz : ¬ bt (S.ne a) b = true) : S.frF a (n + 1) b r = S.frF a n (b + 1) r := if_neg hz
theorem St.frF_bd {S : St} {a n b : Nat} {r : Int} (hz : bt (S.ne a) b = true) (h2 : S.ap (b * 40 + a) = -1) : S.frF a (n + 1) b r = (b : Int) := by
  unfold St.frF
  rw [if_pos hz, if_pos h2]
theorem St.frF_1 {S : St} {a n b : Nat} {r : Int} (hz : bt (S.ne a) b = true) (h2 : ¬ S.ap (b * 40 + a) = -1) (h3 : r = -1) : S.frF a (n + 1) b r = S.frF a n (b + 1) (b : Int) := by
  show (if _ then _ else _) = _
  rw [if_pos hz, if_neg h2, if_pos h3]
theorem St.frF_2 {S : St} {a n b : Nat} {r : Int} (hz : bt (S.ne a) b = true) (h2 : ¬ S.ap (b * 40 + a) = -1) (h3 : ¬ r = -1) : S.frF a (n + 1) b r = S.frF a n (b + 1) r := by
  show (if _ then _ else _) = _
  rw [if_pos hz, if_neg h2, if_neg h3]
/-- what the first of a round is -/
theorem St.frF_ge (S : St) (a : Nat) : ∀ (n b : Nat) (r : Int), (∃ q : Nat, b ≤ q ∧ q < b + n ∧ S.frF a n b r = (q : Int) ∧ bt (S.ne a) q = true ∧ S.ap (q * 40 + a) = -1) ∨
    ((∀ q : Nat, b ≤ q → q < b + n → bt (S.ne a) q = true → S.ap (q * 40 + a) ≠ -1) ∧ ((S.frF a n b r = r ∧ (r ≠ -1 ∨ ∀ q : Nat, b ≤ q → q < b + n → ¬ bt (S.ne a) q = true)) ∨ (r = -1 ∧ ∃ q : Nat, b ≤ q ∧ q < b + n ∧ S.frF a n b r = (q : Int) ∧ bt (S.ne a) q = true))) := by
  intro n
  induction n with
  | zero => intro b r; exact Or.inr ⟨fun q h1 h2 => by omega, Or.inl ⟨rfl, Or.inr (fun q h1 h2 => by omega)⟩⟩
  | succ n ih =>
    intro b r
    by_cases c0 : bt (S.ne a) b = true
    · by_cases c1 : S.ap (b * 40 + a) = -1
      · exact Or.inl ⟨b, by omega, by omega, St.frF_bd c0 c1, c0, c1⟩
      · by_cases c2 : r = -1
        · rw [St.frF_1 c0 c1 c2]
          rcases ih (b + 1) (b : Int) with ⟨q, h1, h2, h3⟩ | ⟨h1, h2⟩
          · exact Or.inl ⟨q, by omega, by omega, h3⟩
          · refine Or.inr ⟨fun q g1 g2 g3 => ?_, ?_⟩
            · rcases Nat.eq_or_lt_of_le g1 with g | g
              · subst g; exact c1
              · exact h1 q (by omega) (by omega) g3
            · rcases h2 with ⟨h2, -⟩ | ⟨h2, -⟩
              · exact Or.inr ⟨c2, b, by omega, by omega, h2, c0⟩
              · omega
        · rw [St.frF_2 c0 c1 c2]
          rcases ih (b + 1) r with ⟨q, h1, h2, h3⟩ | ⟨h1, h2⟩
          · exact Or.inl ⟨q, by omega, by omega, h3⟩
          · refine Or.inr ⟨fun q g1 g2 g3 => ?_, ?_⟩
            · rcases Nat.eq_or_lt_of_le g1 with g | g
              · subst g; exact c1
              · exact h1 q (by omega) (by omega) g3
            · rcases h2 with ⟨h2, -⟩ | ⟨h2, -⟩
              · exact Or.inl ⟨h2, Or.inl c2⟩
              · exact absurd h2 c2
    · rw [St.frF_no c0]
      rcases ih (b + 1) r with ⟨q, h1, h2, h3⟩ | ⟨h1, h2⟩
      · exact Or.inl ⟨q, by omega, by omega, h3⟩
      · refine Or.inr ⟨fun q g1 g2 g3 => ?_, ?_⟩
        · rcases Nat.eq_or_lt_of_le g1 with g | g
          · subst g; exact absurd g3 c0
          · exact h1 q (by omega) (by omega) g3
        · rcases h2 with ⟨h2, h3⟩ | ⟨h2, q, g1, g2, g3⟩
          · refine Or.inl ⟨h2, h3.elim Or.inl (fun h3 => Or.inr (fun q g1 g2 => ?_))⟩
            rcases Nat.eq_or_lt_of_le g1 with g | g
            · subst g; exact c0
            · exact h3 q (by omega) (by omega)
          · exact Or.inr ⟨h2, q, by omega, by omega, g3⟩
theorem St.frF_b (S : St) (a n b : Nat) (r : Int) (hr : -1 ≤ r ∧ r < 40) (hb : b + n ≤ 40) : -1 ≤ S.frF a n b r ∧ S.frF a n b r < 40 := by
  rcases S.frF_ge a n b r with ⟨q, h1, h2, h3, -⟩ | ⟨-, ⟨h2, -⟩ | ⟨-, q, h1, h2, h3, -⟩⟩ <;> omega
theorem l_first {pre post : pW} {m : Nat} (hm : pre.length = m) (S : St) {a : Nat} (ha : a < 40) (hA : S.okA) : ∀ (n b : Nat) (r : Int), b + n = 40 → (-1 ≤ r ∧ r < 40) → qE 40 (4, [(3, .int (iI (b : Int))), (2, .int (iI r)), (0, .ref m), (1, .int (iI (a : Int)))], [], (pre ++ (mB m S ++ post))) (fun r' w' => r' = (some (.int (iI (S.frF a n b r)))) ∧ w' = (pre ++ (mB m S ++ post))) := by
  intro n
  induction n with
  | zero =>
    intro b r hb hr
    refine pe_go (pc := 4) rfl (s_iload_n rfl) ?_
    refine pe_go (pc := 5) rfl (s_bipush (z := 40) rfl) ?_
    refine pe_go rfl (s_icmp_ge_t ⟨by omega, by omega⟩ ⟨by decide, by decide⟩ (by omega)) ?_
    refine pe_go (pc := 49) rfl (s_iload_n rfl) ?_
    exact pe_ret rfl s_reti ⟨rfl, rfl⟩
  | succ n ih =>
    intro b r hb hr
    have hap := hA (b * 40 + a) (by omega)
    refine pe_go (pc := 4) rfl (s_iload_n rfl) ?_
    refine pe_go (pc := 5) rfl (s_bipush (z := 40) rfl) ?_
    refine pe_go rfl (s_icmp_ge_f ⟨by omega, by omega⟩ ⟨by decide, by decide⟩ (by omega)) ?_
    refine pe_go (pc := 10) rfl (s_aload_n rfl) ?_
    refine pe_go (pc := 11) rfl (s_iload_n rfl) ?_
    refine pe_go (pc := 12) rfl (s_iload_n rfl) ?_
    refine pe_call rfl (s_invV rfl (gA0 hm (mB_0 _ _ _)) rfl rfl) (c_isNear hm S ha (by omega : b < 40)) ?_
    by_cases b1 : bt (S.ne a) b = true
    · skip
      refine pe_go rfl (s_ifeq_true (decide_eq_true b1)) ?_
      refine pe_go (pc := 19) rfl (s_aload_n rfl) ?_
      refine pe_go (pc := 20) rfl (s_getf (v := .ref (m + 8)) (gA0 hm (mB_0 _ _ _)) rfl) ?_
      refine pe_go (pc := 23) rfl (s_iload_n rfl) ?_
      refine pe_go (pc := 24) rfl (s_bipush (z := 40) rfl) ?_
      refine pe_go (pc := 26) rfl s_imul ?_
      refine pe_go (pc := 27) rfl (s_iload_n rfl) ?_
      refine pe_go (pc := 28) rfl s_iadd ?_
      refine pe_go (pc := 29) rfl (s_iald (n := 1600) (f := S.ap) (v := S.ap ((b * 40) + a)) (gA hm (mB_ap _ _ _)) (k := (b * 40) + a) (by omega) (by omega) (by decide) rfl) ?_
      refine pe_go (pc := 30) rfl (s_iconst (z := -1) rfl) ?_
      by_cases c2 : (S.ap ((b * 40) + a)) = (-1)
      · skip
        refine pe_go rfl (s_icmp_ne_f ⟨by omega, by omega⟩ ⟨by decide, by decide⟩ (fun e => e c2)) ?_
        refine pe_go (pc := 34) rfl (s_iload_n rfl) ?_
        exact pe_ret rfl s_reti ⟨by rw [St.frF_bd (by assumption) (by assumption)], rfl⟩
      · skip
        refine pe_go rfl (s_icmp_ne_t ⟨by omega, by omega⟩ ⟨by decide, by decide⟩ c2) ?_
        refine pe_go (pc := 36) rfl (s_iload_n rfl) ?_
        refine pe_go (pc := 37) rfl (s_iconst (z := -1) rfl) ?_
        by_cases c3 : r = (-1)
        · skip
          refine pe_go rfl (s_icmp_ne_f ⟨by omega, by omega⟩ ⟨by decide, by decide⟩ (fun e => e c3)) ?_
          refine pe_go (pc := 41) rfl (s_iload_n rfl) ?_
          refine pe_go (pc := 42) rfl (s_istore_n (lv' := [(2, .int (iI (b : Int))), (3, .int (iI (b : Int))), (0, .ref m), (1, .int (iI (a : Int)))]) rfl) ?_
          refine pe_go (pc := 43) rfl (s_iinc (x := (b : Int)) (y := ((b + 1 : Nat) : Int)) rfl (by omega) (lv' := [(3, .int (iI ((b + 1 : Nat) : Int))), (2, .int (iI (b : Int))), (0, .ref m), (1, .int (iI (a : Int)))]) rfl) ?_
          refine pe_go (pc := 46) rfl s_goto ?_
          first | rw [St.frF_no (by assumption)] | rw [St.frF_1 (by assumption) (by assumption) (by assumption)] | rw [St.frF_2 (by assumption) (by assumption) (by assumption)]
          refine pe_few (lv := [(3, .int (iI ((b + 1 : Nat) : Int))), (2, .int (iI (b : Int))), (0, .ref m), (1, .int (iI (a : Int)))]) rfl rfl (by intro q hq; simp only [List.mem_cons, List.not_mem_nil, or_false] at hq; rcases hq with rfl | rfl | rfl | rfl <;> rfl) ?_
          exact ih (b + 1) (b : Int) (by omega) (by omega)
        · skip
          refine pe_go rfl (s_icmp_ne_t ⟨by omega, by omega⟩ ⟨by decide, by decide⟩ c3) ?_
          refine pe_go (pc := 43) rfl (s_iinc (x := (b : Int)) (y := ((b + 1 : Nat) : Int)) rfl (by omega) (lv' := [(3, .int (iI ((b + 1 : Nat) : Int))), (2, .int (iI r)), (0, .ref m), (1, .int (iI (a : Int)))]) rfl) ?_
          refine pe_go (pc := 46) rfl s_goto ?_
          first | rw [St.frF_no (by assumption)] | rw [St.frF_1 (by assumption) (by assumption) (by assumption)] | rw [St.frF_2 (by assumption) (by assumption) (by assumption)]
          refine pe_few (lv := [(3, .int (iI ((b + 1 : Nat) : Int))), (2, .int (iI r)), (0, .ref m), (1, .int (iI (a : Int)))]) rfl rfl (by intro q hq; simp only [List.mem_cons, List.not_mem_nil, or_false] at hq; rcases hq with rfl | rfl | rfl | rfl <;> rfl) ?_
          exact ih (b + 1) r (by omega) (by omega)
    · skip
      refine pe_go rfl (s_ifeq_false (decide_eq_false b1)) ?_
      refine pe_go (pc := 43) rfl (s_iinc (x := (b : Int)) (y := ((b + 1 : Nat) : Int)) rfl (by omega) (lv' := [(3, .int (iI ((b + 1 : Nat) : Int))), (2, .int (iI r)), (0, .ref m), (1, .int (iI (a : Int)))]) rfl) ?_
      refine pe_go (pc := 46) rfl s_goto ?_
      first | rw [St.frF_no (by assumption)] | rw [St.frF_1 (by assumption) (by assumption) (by assumption)] | rw [St.frF_2 (by assumption) (by assumption) (by assumption)]
      refine pe_few (lv := [(3, .int (iI ((b + 1 : Nat) : Int))), (2, .int (iI r)), (0, .ref m), (1, .int (iI (a : Int)))]) rfl rfl (by intro q hq; simp only [List.mem_cons, List.not_mem_nil, or_false] at hq; rcases hq with rfl | rfl | rfl | rfl <;> rfl) ?_
      exact ih (b + 1) r (by omega) (by omega)
theorem c_first {pre post : pW} {m : Nat} (hm : pre.length = m) (S : St) {a : Nat} (ha : a < 40) (hA : S.okA) : pRun 40 [.ref m, .int (iI (a : Int))] (pre ++ (mB m S ++ post)) (some (.int (iI (S.frF a 40 0 (-1))))) (pre ++ (mB m S ++ post)) := by
  refine qx_run ?_
  refine pc_run (lv := [(0, .ref m), (1, .int (iI (a : Int)))]) rfl ?_
  refine pe_go (pc := 0) rfl (s_iconst (z := -1) rfl) ?_
  refine pe_go (pc := 1) rfl (s_istore_n (lv' := [(2, .int (iI (-1))), (0, .ref m), (1, .int (iI (a : Int)))]) rfl) ?_
  refine pe_go (pc := 2) rfl (s_iconst (z := 0) rfl) ?_
  refine pe_go (pc := 3) rfl (s_istore_n (lv' := [(3, .int (iI 0)), (2, .int (iI (-1))), (0, .ref m), (1, .int (iI (a : Int)))]) rfl) ?_
  exact l_first hm S ha hA 40 0 (-1) rfl (by omega)
