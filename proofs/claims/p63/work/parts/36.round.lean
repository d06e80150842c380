/-! THE CLASS: rounds about a point, longest sides, counts. Rows laid by program (wip/p63/wk.py, mk36.py). -/
/-- the first of a round: the first that begins a round of the border, or else the first neighbour -/
def St.frF (S : St) (a : Nat) : Nat → Nat → Int → Int
  | 0, _, r => r
  | n + 1, b, r => if bt (S.ne a) b = true then (if S.ap (b * 40 + a) = -1 then (b : Int) else S.frF a n (b + 1) (if r = -1 then (b : Int) else r)) else S.frF a n (b + 1) r
theorem St.frF_no {S : St} {a n b : Nat} {r : Int} (hz : ¬ bt (S.ne a) b = true) : S.frF a (n + 1) b r = S.frF a n (b + 1) r := if_neg hz
theorem St.frF_bd {S : St} {a n b : Nat} {r : Int} (hz : bt (S.ne a) b = true) (h2 : S.ap (b * 40 + a) = -1) : S.frF a (n + 1) b r = (b : Int) := by
  unfold St.frF
  rw [if_pos hz, if_pos h2]
theorem St.frF_1 {S : St} {a n b : Nat} {r : Int} (hz : bt (S.ne a) b = true) (h2 : ¬ S.ap (b * 40 + a) = -1) (h3 : r = -1) : S.frF a (n + 1) b r = S.frF a n (b + 1) (b : Int) := by
  show (if _ then _ else _) = _
  rw [if_pos hz, if_neg h2, if_pos h3]
theorem St.frF_2 {S : St} {a n b : Nat} {r : Int} (hz : bt (S.ne a) b = true) (h2 : ¬ S.ap (b * 40 + a) = -1) (h3 : ¬ r = -1) : S.frF a (n + 1) b r = S.frF a n (b + 1) r := by
  show (if _ then _ else _) = _
  rw [if_pos hz, if_neg h2, if_neg h3]
/-- what the first of a round is -/
theorem St.frF_ge (S : St) (a : Nat) : ∀ (n b : Nat) (r : Int), (∃ q : Nat, b ≤ q ∧ q < b + n ∧ S.frF a n b r = (q : Int) ∧ bt (S.ne a) q = true ∧ S.ap (q * 40 + a) = -1) ∨
    ((∀ q : Nat, b ≤ q → q < b + n → bt (S.ne a) q = true → S.ap (q * 40 + a) ≠ -1) ∧ ((S.frF a n b r = r ∧ (r ≠ -1 ∨ ∀ q : Nat, b ≤ q → q < b + n → ¬ bt (S.ne a) q = true)) ∨ (r = -1 ∧ ∃ q : Nat, b ≤ q ∧ q < b + n ∧ S.frF a n b r = (q : Int) ∧ bt (S.ne a) q = true))) := by
  intro n
  induction n with
  | zero => intro b r; exact Or.inr ⟨fun q h1 h2 => by omega, Or.inl ⟨rfl, Or.inr (fun q h1 h2 => by omega)⟩⟩
  | succ n ih =>
    intro b r
    by_cases c0 : bt (S.ne a) b = true
    · by_cases c1 : S.ap (b * 40 + a) = -1
      · exact Or.inl ⟨b, by omega, by omega, St.frF_bd c0 c1, c0, c1⟩
      · by_cases c2 : r = -1
        · rw [St.frF_1 c0 c1 c2]
          rcases ih (b + 1) (b : Int) with ⟨q, h1, h2, h3⟩ | ⟨h1, h2⟩
          · exact Or.inl ⟨q, by omega, by omega, h3⟩
          · refine Or.inr ⟨fun q g1 g2 g3 => ?_, ?_⟩
            · rcases Nat.eq_or_lt_of_le g1 with g | g
              · subst g; exact c1
              · exact h1 q (by omega) (by omega) g3
            · rcases h2 with ⟨h2, -⟩ | ⟨h2, -⟩
              · exact Or.inr ⟨c2, b, by omega, by omega, h2, c0⟩
              · omega
        · rw [St.frF_2 c0 c1 c2]
          rcases ih (b + 1) r with ⟨q, h1, h2, h3⟩ | ⟨h1, h2⟩
          · exact Or.inl ⟨q, by omega, by omega, h3⟩
          · refine Or.inr ⟨fun q g1 g2 g3 => ?_, ?_⟩
            · rcases Nat.eq_or_lt_of_le g1 with g | g
              · subst g; exact c1
              · exact h1 q (by omega) (by omega) g3
            · rcases h2 with ⟨h2, -⟩ | ⟨h2, -⟩
              · exact Or.inl ⟨h2, Or.inl c2⟩
              · exact absurd h2 c2
    · rw [St.frF_no c0]
      rcases ih (b + 1) r with ⟨q, h1, h2, h3⟩ | ⟨h1, h2⟩
      · exact Or.inl ⟨q, by omega, by omega, h3⟩
      · refine Or.inr ⟨fun q g1 g2 g3 => ?_, ?_⟩
        · rcases Nat.eq_or_lt_of_le g1 with g | g
          · subst g; exact absurd g3 c0
          · exact h1 q (by omega) (by omega) g3
        · rcases h2 with ⟨h2, h3⟩ | ⟨h2, q, g1, g2, g3⟩
          · refine Or.inl ⟨h2, h3.elim Or.inl (fun h3 => Or.inr (fun q g1 g2 => ?_))⟩
            rcases Nat.eq_or_lt_of_le g1 with g | g
            · subst g; exact c0
            · exact h3 q (by omega) (by omega)
          · exact Or.inr ⟨h2, q, by omega, by omega, g3⟩
theorem St.frF_b (S : St) (a n b : Nat) (r : Int) (hr : -1 ≤ r ∧ r < 40) (hb : b + n ≤ 40) : -1 ≤ S.frF a n b r ∧ S.frF a n b r < 40 := by
  rcases S.frF_ge a n b r with ⟨q, h1, h2, h3, -⟩ | ⟨-, ⟨h2, -⟩ | ⟨-, q, h1, h2, h3, -⟩⟩ <;> omega
theorem l_first {pre post : pW} {m : Nat} (hm : pre.length = m) (S : St) {a : Nat} (ha : a < 40) (hA : S.okA) : ∀ (n b : Nat) (r : Int), b + n = 40 → (-1 ≤ r ∧ r < 40) → qE 40 (4, [(3, .int (iI (b : Int))), (2, .int (iI r)), (0, .ref m), (1, .int (iI (a : Int)))], [], (pre ++ (mB m S ++ post))) (fun r' w' => r' = (some (.int (iI (S.frF a n b r)))) ∧ w' = (pre ++ (mB m S ++ post))) := by
  intro n
  induction n with
  | zero =>
    intro b r hb hr
    refine pe_go (pc := 4) rfl (s_iload_n rfl) ?_
    refine pe_go (pc := 5) rfl (s_bipush (z := 40) rfl) ?_
    refine pe_go rfl (s_icmp_ge_t ⟨by omega, by omega⟩ ⟨by decide, by decide⟩ (by omega)) ?_
    refine pe_go (pc := 49) rfl (s_iload_n rfl) ?_
    exact pe_ret rfl s_reti ⟨rfl, rfl⟩
  | succ n ih =>
    intro b r hb hr
    have hap := hA (b * 40 + a) (by omega)
    refine pe_go (pc := 4) rfl (s_iload_n rfl) ?_
    refine pe_go (pc := 5) rfl (s_bipush (z := 40) rfl) ?_
    refine pe_go rfl (s_icmp_ge_f ⟨by omega, by omega⟩ ⟨by decide, by decide⟩ (by omega)) ?_
    refine pe_go (pc := 10) rfl (s_aload_n rfl) ?_
    refine pe_go (pc := 11) rfl (s_iload_n rfl) ?_
    refine pe_go (pc := 12) rfl (s_iload_n rfl) ?_
    refine pe_call rfl (s_invV rfl (gA0 hm (mB_0 _ _ _)) rfl rfl) (c_isNear hm S ha (by omega : b < 40)) ?_
    by_cases b1 : bt (S.ne a) b = true
    · skip
      refine pe_go rfl (s_ifeq_true (decide_eq_true b1)) ?_
      refine pe_go (pc := 19) rfl (s_aload_n rfl) ?_
      refine pe_go (pc := 20) rfl (s_getf (v := .ref (m + 8)) (gA0 hm (mB_0 _ _ _)) rfl) ?_
      refine pe_go (pc := 23) rfl (s_iload_n rfl) ?_
      refine pe_go (pc := 24) rfl (s_bipush (z := 40) rfl) ?_
      refine pe_go (pc := 26) rfl s_imul ?_
      refine pe_go (pc := 27) rfl (s_iload_n rfl) ?_
      refine pe_go (pc := 28) rfl s_iadd ?_
      refine pe_go (pc := 29) rfl (s_iald (n := 1600) (f := S.ap) (v := S.ap ((b * 40) + a)) (gA hm (mB_ap _ _ _)) (k := (b * 40) + a) (by omega) (by omega) (by decide) rfl) ?_
      refine pe_go (pc := 30) rfl (s_iconst (z := -1) rfl) ?_
      by_cases c2 : (S.ap ((b * 40) + a)) = (-1)
      · skip
        refine pe_go rfl (s_icmp_ne_f ⟨by omega, by omega⟩ ⟨by decide, by decide⟩ (fun e => e c2)) ?_
        refine pe_go (pc := 34) rfl (s_iload_n rfl) ?_
        exact pe_ret rfl s_reti ⟨by rw [St.frF_bd (by assumption) (by assumption)], rfl⟩
      · skip
        refine pe_go rfl (s_icmp_ne_t ⟨by omega, by omega⟩ ⟨by decide, by decide⟩ c2) ?_
        refine pe_go (pc := 36) rfl (s_iload_n rfl) ?_
        refine pe_go (pc := 37) rfl (s_iconst (z := -1) rfl) ?_
        by_cases c3 : r = (-1)
        · skip
          refine pe_go rfl (s_icmp_ne_f ⟨by omega, by omega⟩ ⟨by decide, by decide⟩ (fun e => e c3)) ?_
          refine pe_go (pc := 41) rfl (s_iload_n rfl) ?_
          refine pe_go (pc := 42) rfl (s_istore_n (lv' := [(2, .int (iI (b : Int))), (3, .int (iI (b : Int))), (0, .ref m), (1, .int (iI (a : Int)))]) rfl) ?_
          refine pe_go (pc := 43) rfl (s_iinc (x := (b : Int)) (y := ((b + 1 : Nat) : Int)) rfl (by omega) (lv' := [(3, .int (iI ((b + 1 : Nat) : Int))), (2, .int (iI (b : Int))), (0, .ref m), (1, .int (iI (a : Int)))]) rfl) ?_
          refine pe_go (pc := 46) rfl s_goto ?_
          first | rw [St.frF_no (by assumption)] | rw [St.frF_1 (by assumption) (by assumption) (by assumption)] | rw [St.frF_2 (by assumption) (by assumption) (by assumption)]
          refine pe_few (lv := [(3, .int (iI ((b + 1 : Nat) : Int))), (2, .int (iI (b : Int))), (0, .ref m), (1, .int (iI (a : Int)))]) rfl rfl (by intro q hq; simp only [List.mem_cons, List.not_mem_nil, or_false] at hq; rcases hq with rfl | rfl | rfl | rfl <;> rfl) ?_
          exact ih (b + 1) (b : Int) (by omega) (by omega)
        · skip
          refine pe_go rfl (s_icmp_ne_t ⟨by omega, by omega⟩ ⟨by decide, by decide⟩ c3) ?_
          refine pe_go (pc := 43) rfl (s_iinc (x := (b : Int)) (y := ((b + 1 : Nat) : Int)) rfl (by omega) (lv' := [(3, .int (iI ((b + 1 : Nat) : Int))), (2, .int (iI r)), (0, .ref m), (1, .int (iI (a : Int)))]) rfl) ?_
          refine pe_go (pc := 46) rfl s_goto ?_
          first | rw [St.frF_no (by assumption)] | rw [St.frF_1 (by assumption) (by assumption) (by assumption)] | rw [St.frF_2 (by assumption) (by assumption) (by assumption)]
          refine pe_few (lv := [(3, .int (iI ((b + 1 : Nat) : Int))), (2, .int (iI r)), (0, .ref m), (1, .int (iI (a : Int)))]) rfl rfl (by intro q hq; simp only [List.mem_cons, List.not_mem_nil, or_false] at hq; rcases hq with rfl | rfl | rfl | rfl <;> rfl) ?_
          exact ih (b + 1) r (by omega) (by omega)
    · skip
      refine pe_go rfl (s_ifeq_false (decide_eq_false b1)) ?_
      refine pe_go (pc := 43) rfl (s_iinc (x := (b : Int)) (y := ((b + 1 : Nat) : Int)) rfl (by omega) (lv' := [(3, .int (iI ((b + 1 : Nat) : Int))), (2, .int (iI r)), (0, .ref m), (1, .int (iI (a : Int)))]) rfl) ?_
      refine pe_go (pc := 46) rfl s_goto ?_
      first | rw [St.frF_no (by assumption)] | rw [St.frF_1 (by assumption) (by assumption) (by assumption)] | rw [St.frF_2 (by assumption) (by assumption) (by assumption)]
      refine pe_few (lv := [(3, .int (iI ((b + 1 : Nat) : Int))), (2, .int (iI r)), (0, .ref m), (1, .int (iI (a : Int)))]) rfl rfl (by intro q hq; simp only [List.mem_cons, List.not_mem_nil, or_false] at hq; rcases hq with rfl | rfl | rfl | rfl <;> rfl) ?_
      exact ih (b + 1) r (by omega) (by omega)
theorem c_first {pre post : pW} {m : Nat} (hm : pre.length = m) (S : St) {a : Nat} (ha : a < 40) (hA : S.okA) : pRun 40 [.ref m, .int (iI (a : Int))] (pre ++ (mB m S ++ post)) (some (.int (iI (S.frF a 40 0 (-1))))) (pre ++ (mB m S ++ post)) := by
  refine qx_run ?_
  refine pc_run (lv := [(0, .ref m), (1, .int (iI (a : Int)))]) rfl ?_
  refine pe_go (pc := 0) rfl (s_iconst (z := -1) rfl) ?_
  refine pe_go (pc := 1) rfl (s_istore_n (lv' := [(2, .int (iI (-1))), (0, .ref m), (1, .int (iI (a : Int)))]) rfl) ?_
  refine pe_go (pc := 2) rfl (s_iconst (z := 0) rfl) ?_
  refine pe_go (pc := 3) rfl (s_istore_n (lv' := [(3, .int (iI 0)), (2, .int (iI (-1))), (0, .ref m), (1, .int (iI (a : Int)))]) rfl) ?_
  exact l_first hm S ha hA 40 0 (-1) rfl (by omega)
/-- round about q from v on -/
def St.it (S : St) (q v : Nat) : Nat → Nat
  | 0 => v
  | i + 1 => (S.ap (q * 40 + S.it q v i)).toNat
/-- a round about a, from v0 on: n points, each behind the one before; it ends at the border, or comes back, or is as long as can be -/
def St.rnd (S : St) (a v0 n : Nat) : Prop := 0 < n ∧ n ≤ 40 ∧ (∀ j : Nat, j + 1 < n → S.ap (a * 40 + S.it a v0 j) ≠ -1 ∧ S.ap (a * 40 + S.it a v0 j) ≠ (v0 : Int)) ∧ (n = 40 ∨ S.ap (a * 40 + S.it a v0 (n - 1)) = -1 ∨ S.ap (a * 40 + S.it a v0 (n - 1)) = (v0 : Int))
def goW (pre post : pW) (m : Nat) (S : St) (a v0 : Nat) (r : Option Value) (w' : pW) : Prop := ∃ n : Nat, ∃ rd : Nat → Int, r = some (.int (iI (n : Int))) ∧ S.rnd a v0 n ∧ (∀ j : Nat, j < n → rd j = (S.it a v0 j : Int)) ∧ (∀ j : Nat, n ≤ j → rd j = S.rd j) ∧ w' = pre ++ (mB m (S.u_rd rd) ++ post)
theorem l_goRound {pre post : pW} {m : Nat} (hm : pre.length = m) (S : St) {a v0 : Nat} (ha : a < 40) (hv0 : v0 < 40) (hA : S.okA) : ∀ (n i : Nat) (v : Int) (rd : Nat → Int), i + n = 40 → (-1 ≤ v ∧ v < 40) → (∀ j : Nat, j < i → rd j = (S.it a v0 j : Int)) → (∀ j : Nat, i ≤ j → rd j = S.rd j) → (∀ j : Nat, j + 1 < i → S.ap (a * 40 + S.it a v0 j) ≠ -1) → (∀ j : Nat, j < i → S.ap (a * 40 + S.it a v0 j) ≠ (v0 : Int)) → (i = 0 → v = (v0 : Int)) → (0 < i → v = S.ap (a * 40 + S.it a v0 (i - 1))) → qE 39 (14, [(5, .int (iI (i : Int))), (4, .int (iI (i : Int))), (3, .int (iI v)), (2, .int (iI (v0 : Int))), (0, .ref m), (1, .int (iI (a : Int)))], [], pre ++ (mB m (S.u_rd rd) ++ post)) (goW pre post m S a v0) := by
  intro n
  induction n with
  | zero =>
    intro i v rd hi hv hrd hrs H1 H2 H0 H3
    refine pe_go (pc := 14) rfl (s_iload rfl) ?_
    refine pe_go (pc := 16) rfl (s_bipush (z := 40) rfl) ?_
    refine pe_go rfl (s_icmp_ge_t ⟨by omega, by omega⟩ ⟨by decide, by decide⟩ (by omega)) ?_
    refine pe_go (pc := 63) rfl (s_iload rfl) ?_
    exact pe_ret rfl s_reti ⟨i, rd, rfl, ⟨by omega, by omega, fun j hj => ⟨H1 j hj, H2 j (by omega)⟩, Or.inl (by omega)⟩, hrd, hrs, rfl⟩
  | succ n ih =>
    intro i v rd hi hv hrd hrs H1 H2 H0 H3
    by_cases hz : v = -1
    · have hi0 : 0 < i := by
        rcases Nat.eq_zero_or_pos i with g | g
        · have := H0 g
          omega
        · exact g
      have h3 := H3 hi0
      refine pe_go (pc := 14) rfl (s_iload rfl) ?_
      refine pe_go (pc := 16) rfl (s_bipush (z := 40) rfl) ?_
      refine pe_go rfl (s_icmp_ge_f ⟨by omega, by omega⟩ ⟨by decide, by decide⟩ (by omega)) ?_
      refine pe_go (pc := 21) rfl (s_iload_n rfl) ?_
      refine pe_go (pc := 22) rfl (s_iconst (z := -1) rfl) ?_
      refine pe_go rfl (s_icmp_eq_t ⟨by omega, by omega⟩ ⟨by decide, by decide⟩ hz) ?_
      refine pe_go (pc := 63) rfl (s_iload rfl) ?_
      exact pe_ret rfl s_reti ⟨i, rd, rfl, ⟨hi0, by omega, fun j hj => ⟨H1 j hj, H2 j (by omega)⟩, Or.inr (Or.inl (by rw [← h3]; exact hz))⟩, hrd, hrs, rfl⟩
    · have hu : v = ((v.toNat : Nat) : Int) := by omega
      generalize v.toNat = u at hu
      subst hu
      have eu : S.it a v0 i = u := by
        rcases Nat.eq_zero_or_pos i with g | g
        · have := H0 g
          subst g
          show v0 = u
          omega
        · have := H3 g
          obtain ⟨k, rfl⟩ : ∃ k, i = k + 1 := ⟨i - 1, by omega⟩
          show (S.ap (a * 40 + S.it a v0 k)).toNat = u
          rw [show k + 1 - 1 = k from rfl] at this
          omega
      have h1' : ∀ j : Nat, j + 1 < i + 1 → S.ap (a * 40 + S.it a v0 j) ≠ -1 := fun j hj => by
        by_cases g : j + 1 < i
        · exact H1 j g
        · have := H3 (by omega)
          rw [show i - 1 = j by omega] at this
          omega
      have hrd' : ∀ j : Nat, j < i + 1 → uZ rd i (u : Int) j = (S.it a v0 j : Int) := fun j hj => by
        by_cases g : j = i
        · subst g
          rw [uZ_at, eu]
        · rw [uZ_ne g]
          exact hrd j (by omega)
      have hrs' : ∀ j : Nat, i + 1 ≤ j → uZ rd i (u : Int) j = S.rd j := fun j hj => by
        rw [uZ_ne (by omega)]
        exact hrs j (by omega)
      have hap := hA (a * 40 + u) (by omega)
      refine pe_go (pc := 14) rfl (s_iload rfl) ?_
      refine pe_go (pc := 16) rfl (s_bipush (z := 40) rfl) ?_
      refine pe_go rfl (s_icmp_ge_f ⟨by omega, by omega⟩ ⟨by decide, by decide⟩ (by omega)) ?_
      refine pe_go (pc := 21) rfl (s_iload_n rfl) ?_
      refine pe_go (pc := 22) rfl (s_iconst (z := -1) rfl) ?_
      refine pe_go rfl (s_icmp_eq_f ⟨by omega, by omega⟩ ⟨by decide, by decide⟩ (by omega)) ?_
      refine pe_go (pc := 26) rfl (s_aload_n rfl) ?_
      refine pe_go (pc := 27) rfl (s_getf (v := .ref (m + 13)) (gA0 hm (mB_0 _ _ _)) rfl) ?_
      refine pe_go (pc := 30) rfl (s_iload rfl) ?_
      refine pe_go (pc := 32) rfl (s_iload_n rfl) ?_
      refine pe_go (pc := 33) rfl (s_iast (n := 40) (f := rd) (w' := pre ++ (mB m (S.u_rd (uZ rd i (u : Int))) ++ post)) (gA hm (mB_rd _ _ _)) (k := i) (by omega) (by omega) (by decide) (gS hm (mB_s_rd _ _ _ _))) ?_
      refine pe_go (pc := 34) rfl (s_iinc (x := (i : Int)) (y := ((i + 1 : Nat) : Int)) rfl (by omega) (lv' := [(4, .int (iI ((i + 1 : Nat) : Int))), (5, .int (iI (i : Int))), (3, .int (iI (u : Int))), (2, .int (iI (v0 : Int))), (0, .ref m), (1, .int (iI (a : Int)))]) rfl) ?_
      refine pe_go (pc := 37) rfl (s_aload_n rfl) ?_
      refine pe_go (pc := 38) rfl (s_getf (v := .ref (m + 8)) (gA0 hm (mB_0 _ _ _)) rfl) ?_
      refine pe_go (pc := 41) rfl (s_iload_n rfl) ?_
      refine pe_go (pc := 42) rfl (s_bipush (z := 40) rfl) ?_
      refine pe_go (pc := 44) rfl s_imul ?_
      refine pe_go (pc := 45) rfl (s_iload_n rfl) ?_
      refine pe_go (pc := 46) rfl s_iadd ?_
      refine pe_go (pc := 47) rfl (s_iald (n := 1600) (f := S.ap) (v := S.ap ((a * 40) + u)) (gA hm (mB_ap _ _ _)) (k := (a * 40) + u) (by omega) (by omega) (by decide) rfl) ?_
      refine pe_go (pc := 48) rfl (s_istore_n (lv' := [(3, .int (iI (S.ap ((a * 40) + u)))), (4, .int (iI ((i + 1 : Nat) : Int))), (5, .int (iI (i : Int))), (2, .int (iI (v0 : Int))), (0, .ref m), (1, .int (iI (a : Int)))]) rfl) ?_
      refine pe_go (pc := 49) rfl (s_iload_n rfl) ?_
      refine pe_go (pc := 50) rfl (s_iload_n rfl) ?_
      by_cases c1 : (S.ap ((a * 40) + u)) = (v0 : Int)
      · skip
        refine pe_go rfl (s_icmp_ne_f ⟨by omega, by omega⟩ ⟨by omega, by omega⟩ (fun e => e c1)) ?_
        refine pe_go (pc := 54) rfl s_goto ?_
        refine pe_go (pc := 63) rfl (s_iload rfl) ?_
        refine pe_ret rfl s_reti ⟨i + 1, uZ rd i (u : Int), rfl, ⟨by omega, by omega, fun j hj => ⟨h1' j hj, H2 j (by omega)⟩, Or.inr (Or.inr ?_)⟩, hrd', hrs', rfl⟩
        rw [show i + 1 - 1 = i from rfl, eu]
        assumption
      · skip
        refine pe_go rfl (s_icmp_ne_t ⟨by omega, by omega⟩ ⟨by omega, by omega⟩ c1) ?_
        refine pe_go (pc := 57) rfl (s_iinc (x := (i : Int)) (y := ((i + 1 : Nat) : Int)) rfl (by omega) (lv' := [(5, .int (iI ((i + 1 : Nat) : Int))), (3, .int (iI (S.ap ((a * 40) + u)))), (4, .int (iI ((i + 1 : Nat) : Int))), (2, .int (iI (v0 : Int))), (0, .ref m), (1, .int (iI (a : Int)))]) rfl) ?_
        refine pe_go (pc := 60) rfl s_goto ?_
        refine pe_few (lv := [(5, .int (iI ((i + 1 : Nat) : Int))), (4, .int (iI ((i + 1 : Nat) : Int))), (3, .int (iI (S.ap (a * 40 + u)))), (2, .int (iI (v0 : Int))), (0, .ref m), (1, .int (iI (a : Int)))]) rfl rfl (by intro q hq; simp only [List.mem_cons, List.not_mem_nil, or_false] at hq; rcases hq with rfl | rfl | rfl | rfl | rfl | rfl <;> rfl) ?_
        refine ih (i + 1) _ (uZ rd i (u : Int)) (by omega) hap hrd' hrs' h1' (fun j hj => ?_) (fun z => absurd z (Nat.succ_ne_zero _)) (fun _ => by rw [show i + 1 - 1 = i from rfl, eu])
        by_cases g : j = i
        · subst g
          rw [eu]
          assumption
        · exact H2 j (by omega)
theorem c_firstV {pre post : pW} {m : Nat} (hm : pre.length = m) (S : St) {a : Nat} {z : Int} (ha : a < 40) (hA : S.okA) (hf : S.frF a 40 0 (-1) = z) : pRun 40 [.ref m, .int (iI (a : Int))] (pre ++ (mB m S ++ post)) (some (.int (iI z))) (pre ++ (mB m S ++ post)) := by
  subst hf
  exact c_first hm S ha hA
theorem c_goRound {pre post : pW} {m : Nat} (hm : pre.length = m) (S : St) {a v0 : Nat} (ha : a < 40) (hv0 : v0 < 40) (hA : S.okA) (hf : S.frF a 40 0 (-1) = (v0 : Int)) : qC 39 [.ref m, .int (iI (a : Int))] (pre ++ (mB m S ++ post)) (goW pre post m S a v0) := by
  refine pc_run (lv := [(0, .ref m), (1, .int (iI (a : Int)))]) rfl ?_
  refine pe_go (pc := 0) rfl (s_aload_n rfl) ?_
  refine pe_go (pc := 1) rfl (s_iload_n rfl) ?_
  refine pe_call rfl (s_invV rfl (gA0 hm (mB_0 _ _ _)) rfl rfl) (c_firstV hm S ha hA hf) ?_
  refine pe_go (pc := 5) rfl (s_istore_n (lv' := [(2, .int (iI (v0 : Int))), (0, .ref m), (1, .int (iI (a : Int)))]) rfl) ?_
  refine pe_go (pc := 6) rfl (s_iload_n rfl) ?_
  refine pe_go (pc := 7) rfl (s_istore_n (lv' := [(3, .int (iI (v0 : Int))), (2, .int (iI (v0 : Int))), (0, .ref m), (1, .int (iI (a : Int)))]) rfl) ?_
  refine pe_go (pc := 8) rfl (s_iconst (z := 0) rfl) ?_
  refine pe_go (pc := 9) rfl (s_istore (lv' := [(4, .int (iI 0)), (3, .int (iI (v0 : Int))), (2, .int (iI (v0 : Int))), (0, .ref m), (1, .int (iI (a : Int)))]) rfl) ?_
  refine pe_go (pc := 11) rfl (s_iconst (z := 0) rfl) ?_
  refine pe_go (pc := 12) rfl (s_istore (lv' := [(5, .int (iI 0)), (4, .int (iI 0)), (3, .int (iI (v0 : Int))), (2, .int (iI (v0 : Int))), (0, .ref m), (1, .int (iI (a : Int)))]) rfl) ?_
  refine pe_few (lv := [(5, .int (iI ((0 : Nat) : Int))), (4, .int (iI ((0 : Nat) : Int))), (3, .int (iI (v0 : Int))), (2, .int (iI (v0 : Int))), (0, .ref m), (1, .int (iI (a : Int)))]) rfl rfl (by intro q hq; simp only [List.mem_cons, List.not_mem_nil, or_false] at hq; rcases hq with rfl | rfl | rfl | rfl | rfl | rfl <;> rfl) ?_
  exact l_goRound hm S ha hv0 hA 40 0 _ S.rd rfl (by omega) (fun j hj => by omega) (fun j hj => rfl) (fun j hj => by omega) (fun j hj => by omega) (fun _ => rfl) (fun z => by omega)
theorem c_goNone {pre post : pW} {m : Nat} (hm : pre.length = m) (S : St) {a : Nat} (ha : a < 40) (hA : S.okA) (hf : S.frF a 40 0 (-1) = -1) : pRun 39 [.ref m, .int (iI (a : Int))] (pre ++ (mB m S ++ post)) (some (.int (iI 0))) (pre ++ (mB m S ++ post)) := by
  refine qx_run ?_
  refine pc_run (lv := [(0, .ref m), (1, .int (iI (a : Int)))]) rfl ?_
  refine pe_go (pc := 0) rfl (s_aload_n rfl) ?_
  refine pe_go (pc := 1) rfl (s_iload_n rfl) ?_
  refine pe_call rfl (s_invV rfl (gA0 hm (mB_0 _ _ _)) rfl rfl) (c_firstV hm S ha hA hf) ?_
  refine pe_go (pc := 5) rfl (s_istore_n (lv' := [(2, .int (iI (-1))), (0, .ref m), (1, .int (iI (a : Int)))]) rfl) ?_
  refine pe_go (pc := 6) rfl (s_iload_n rfl) ?_
  refine pe_go (pc := 7) rfl (s_istore_n (lv' := [(3, .int (iI (-1))), (2, .int (iI (-1))), (0, .ref m), (1, .int (iI (a : Int)))]) rfl) ?_
  refine pe_go (pc := 8) rfl (s_iconst (z := 0) rfl) ?_
  refine pe_go (pc := 9) rfl (s_istore (lv' := [(4, .int (iI 0)), (3, .int (iI (-1))), (2, .int (iI (-1))), (0, .ref m), (1, .int (iI (a : Int)))]) rfl) ?_
  refine pe_go (pc := 11) rfl (s_iconst (z := 0) rfl) ?_
  refine pe_go (pc := 12) rfl (s_istore (lv' := [(5, .int (iI 0)), (4, .int (iI 0)), (3, .int (iI (-1))), (2, .int (iI (-1))), (0, .ref m), (1, .int (iI (a : Int)))]) rfl) ?_
  refine pe_go (pc := 14) rfl (s_iload rfl) ?_
  refine pe_go (pc := 16) rfl (s_bipush (z := 40) rfl) ?_
  refine pe_go rfl (s_icmp_ge_f ⟨by decide, by decide⟩ ⟨by decide, by decide⟩ (by decide)) ?_
  refine pe_go (pc := 21) rfl (s_iload_n rfl) ?_
  refine pe_go (pc := 22) rfl (s_iconst (z := -1) rfl) ?_
  refine pe_go rfl (s_icmp_eq_t ⟨by decide, by decide⟩ ⟨by decide, by decide⟩ (by decide)) ?_
  refine pe_go (pc := 63) rfl (s_iload rfl) ?_
  exact pe_ret rfl s_reti ⟨rfl, rfl⟩
