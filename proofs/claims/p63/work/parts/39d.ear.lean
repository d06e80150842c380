/-! THE CLASS: ears cut. Rows laid by program (wip/p63/wk.py, mk39d.py). -/
theorem nmod {x : Int} {a n i : Nat} (he : a % n = i) (hx : x = (a : Int)) : Int.tmod x (n : Int) = (i : Int) := by
  subst hx
  subst he
  rfl
/-- the round holds points -/
def St.okR (S : St) : Prop := ∀ j : Nat, j < 40 → 0 ≤ S.rd j ∧ S.rd j < 40
def St.rr (S : St) (j : Nat) : Nat := (S.rd j).toNat
theorem St.rr_eq {S : St} (hR : S.okR) {j : Nat} (hj : j < 40) : S.rd j = (S.rr j : Int) := by
  have := hR j hj
  unfold St.rr
  omega
theorem St.rr_lt {S : St} (hR : S.okR) {j : Nat} (hj : j < 40) : S.rr j < 40 := by
  have := hR j hj
  unfold St.rr
  omega
abbrev St.in3 (S : St) (a b c q : Nat) : Prop := (q ≠ a ∧ q ≠ b ∧ q ≠ c) ∧ 0 ≤ S.sd3 a b q ∧ 0 ≤ S.sd3 b c q ∧ 0 ≤ S.sd3 c a q
abbrev St.ear (S : St) (a b c n : Nat) : Prop := 0 < S.sd3 a b c ∧ ∀ j : Nat, j < n → ¬ S.in3 a b c (S.rr j)
abbrev St.earAt (S : St) (k n : Nat) : Prop := S.ear (S.rr ((k + n - 1) % n)) (S.rr k) (S.rr ((k + 1) % n)) n
theorem l_ear {pre post : pW} {m : Nat} (hm : pre.length = m) (S : St) {a b c k n : Nat} (ha : a < 40) (hb : b < 40) (hc : c < 40) (hn : n ≤ 40) (hR : S.okR) (hB : S.inB) (hpos : 0 < S.sd3 a b c) : ∀ (d j : Nat), j + d = n → (∀ q : Nat, q < j → ¬ S.in3 a b c (S.rr q)) → qE 9 (53, [(6, .int (iI (j : Int))), (5, .int (iI (c : Int))), (4, .int (iI (b : Int))), (3, .int (iI (a : Int))), (0, .ref m), (1, .int (iI (k : Int))), (2, .int (iI (n : Int)))], [], (pre ++ (mB m S ++ post))) (fun r' w' => r' = (some (.int (bI (decide (S.ear a b c n))))) ∧ w' = (pre ++ (mB m S ++ post))) := by
  intro d
  induction d with
  | zero =>
    intro j hj hP
    refine pe_go (pc := 53) rfl (s_iload rfl) ?_
    refine pe_go (pc := 55) rfl (s_iload_n rfl) ?_
    refine pe_go rfl (s_icmp_ge_t ⟨by omega, by omega⟩ ⟨by omega, by omega⟩ (by omega)) ?_
    refine pe_go (pc := 154) rfl (s_iconst (z := 1) rfl) ?_
    exact pe_ret rfl s_ret1 ⟨by rw [decide_eq_true (show S.ear a b c n from ⟨hpos, fun q hq => hP q (by omega)⟩)], rfl⟩
  | succ d ih =>
    intro j hj hP
    have hrl := St.rr_lt hR (show j < 40 by omega)
    refine pe_go (pc := 53) rfl (s_iload rfl) ?_
    refine pe_go (pc := 55) rfl (s_iload_n rfl) ?_
    refine pe_go rfl (s_icmp_ge_f ⟨by omega, by omega⟩ ⟨by omega, by omega⟩ (by omega)) ?_
    refine pe_go (pc := 59) rfl (s_aload_n rfl) ?_
    refine pe_go (pc := 60) rfl (s_getf (v := .ref (m + 13)) (gA0 hm (mB_0 _ _ _)) rfl) ?_
    refine pe_go (pc := 63) rfl (s_iload rfl) ?_
    refine pe_go (pc := 65) rfl (s_iald (n := 40) (f := S.rd) (v := ((S.rr j : Nat) : Int)) (gA hm (mB_rd _ _ _)) (k := j) (by omega) (by omega) (by decide) (St.rr_eq hR (by omega))) ?_
    refine pe_go (pc := 66) rfl (s_istore (lv' := [(7, .int (iI ((S.rr j : Nat) : Int))), (6, .int (iI (j : Int))), (5, .int (iI (c : Int))), (4, .int (iI (b : Int))), (3, .int (iI (a : Int))), (0, .ref m), (1, .int (iI (k : Int))), (2, .int (iI (n : Int)))]) rfl) ?_
    refine pe_go (pc := 68) rfl (s_iload rfl) ?_
    refine pe_go (pc := 70) rfl (s_iload_n rfl) ?_
    by_cases c1 : ((S.rr j : Nat) : Int) = (a : Int)
    · skip
      refine pe_go rfl (s_icmp_eq_t ⟨by omega, by omega⟩ ⟨by omega, by omega⟩ c1) ?_
      refine pe_go (pc := 88) rfl (s_iconst (z := 1) rfl) ?_
      refine pe_go (pc := 89) rfl s_goto ?_
      refine pe_go (pc := 93) rfl (s_istore (lv' := [(8, .int (iI 1)), (7, .int (iI ((S.rr j : Nat) : Int))), (6, .int (iI (j : Int))), (5, .int (iI (c : Int))), (4, .int (iI (b : Int))), (3, .int (iI (a : Int))), (0, .ref m), (1, .int (iI (k : Int))), (2, .int (iI (n : Int)))]) rfl) ?_
      refine pe_go (pc := 95) rfl (s_iload rfl) ?_
      refine pe_go rfl (s_if_ne_t ⟨by decide, by decide⟩ (by decide)) ?_
      refine pe_go (pc := 148) rfl (s_iinc (x := (j : Int)) (y := ((j + 1 : Nat) : Int)) rfl (by omega) (lv' := [(6, .int (iI ((j + 1 : Nat) : Int))), (8, .int (iI 1)), (7, .int (iI ((S.rr j : Nat) : Int))), (5, .int (iI (c : Int))), (4, .int (iI (b : Int))), (3, .int (iI (a : Int))), (0, .ref m), (1, .int (iI (k : Int))), (2, .int (iI (n : Int)))]) rfl) ?_
      refine pe_go (pc := 151) rfl s_goto ?_
      refine pe_few (lv := [(6, .int (iI ((j + 1 : Nat) : Int))), (5, .int (iI (c : Int))), (4, .int (iI (b : Int))), (3, .int (iI (a : Int))), (0, .ref m), (1, .int (iI (k : Int))), (2, .int (iI (n : Int)))]) rfl rfl (by intro q hq; simp only [List.mem_cons, List.not_mem_nil, or_false] at hq; rcases hq with rfl | rfl | rfl | rfl | rfl | rfl | rfl <;> rfl) ?_
      refine ih (j + 1) (by omega) (fun q hq => ?_)
      by_cases g : q = j
      · subst g
        rintro ⟨⟨z1, z2, z3⟩, z4, z5, z6⟩
        omega
      · exact hP q (by omega)
    · skip
      refine pe_go rfl (s_icmp_eq_f ⟨by omega, by omega⟩ ⟨by omega, by omega⟩ c1) ?_
      refine pe_go (pc := 74) rfl (s_iload rfl) ?_
      refine pe_go (pc := 76) rfl (s_iload rfl) ?_
      by_cases c2 : ((S.rr j : Nat) : Int) = (b : Int)
      · skip
        refine pe_go rfl (s_icmp_eq_t ⟨by omega, by omega⟩ ⟨by omega, by omega⟩ c2) ?_
        refine pe_go (pc := 88) rfl (s_iconst (z := 1) rfl) ?_
        refine pe_go (pc := 89) rfl s_goto ?_
        refine pe_go (pc := 93) rfl (s_istore (lv' := [(8, .int (iI 1)), (7, .int (iI ((S.rr j : Nat) : Int))), (6, .int (iI (j : Int))), (5, .int (iI (c : Int))), (4, .int (iI (b : Int))), (3, .int (iI (a : Int))), (0, .ref m), (1, .int (iI (k : Int))), (2, .int (iI (n : Int)))]) rfl) ?_
        refine pe_go (pc := 95) rfl (s_iload rfl) ?_
        refine pe_go rfl (s_if_ne_t ⟨by decide, by decide⟩ (by decide)) ?_
        refine pe_go (pc := 148) rfl (s_iinc (x := (j : Int)) (y := ((j + 1 : Nat) : Int)) rfl (by omega) (lv' := [(6, .int (iI ((j + 1 : Nat) : Int))), (8, .int (iI 1)), (7, .int (iI ((S.rr j : Nat) : Int))), (5, .int (iI (c : Int))), (4, .int (iI (b : Int))), (3, .int (iI (a : Int))), (0, .ref m), (1, .int (iI (k : Int))), (2, .int (iI (n : Int)))]) rfl) ?_
        refine pe_go (pc := 151) rfl s_goto ?_
        refine pe_few (lv := [(6, .int (iI ((j + 1 : Nat) : Int))), (5, .int (iI (c : Int))), (4, .int (iI (b : Int))), (3, .int (iI (a : Int))), (0, .ref m), (1, .int (iI (k : Int))), (2, .int (iI (n : Int)))]) rfl rfl (by intro q hq; simp only [List.mem_cons, List.not_mem_nil, or_false] at hq; rcases hq with rfl | rfl | rfl | rfl | rfl | rfl | rfl <;> rfl) ?_
        refine ih (j + 1) (by omega) (fun q hq => ?_)
        by_cases g : q = j
        · subst g
          rintro ⟨⟨z1, z2, z3⟩, z4, z5, z6⟩
          omega
        · exact hP q (by omega)
      · skip
        refine pe_go rfl (s_icmp_eq_f ⟨by omega, by omega⟩ ⟨by omega, by omega⟩ c2) ?_
        refine pe_go (pc := 81) rfl (s_iload rfl) ?_
        refine pe_go (pc := 83) rfl (s_iload rfl) ?_
        by_cases c3 : ((S.rr j : Nat) : Int) = (c : Int)
        · skip
          refine pe_go rfl (s_icmp_ne_f ⟨by omega, by omega⟩ ⟨by omega, by omega⟩ (fun e => e c3)) ?_
          refine pe_go (pc := 88) rfl (s_iconst (z := 1) rfl) ?_
          refine pe_go (pc := 89) rfl s_goto ?_
          refine pe_go (pc := 93) rfl (s_istore (lv' := [(8, .int (iI 1)), (7, .int (iI ((S.rr j : Nat) : Int))), (6, .int (iI (j : Int))), (5, .int (iI (c : Int))), (4, .int (iI (b : Int))), (3, .int (iI (a : Int))), (0, .ref m), (1, .int (iI (k : Int))), (2, .int (iI (n : Int)))]) rfl) ?_
          refine pe_go (pc := 95) rfl (s_iload rfl) ?_
          refine pe_go rfl (s_if_ne_t ⟨by decide, by decide⟩ (by decide)) ?_
          refine pe_go (pc := 148) rfl (s_iinc (x := (j : Int)) (y := ((j + 1 : Nat) : Int)) rfl (by omega) (lv' := [(6, .int (iI ((j + 1 : Nat) : Int))), (8, .int (iI 1)), (7, .int (iI ((S.rr j : Nat) : Int))), (5, .int (iI (c : Int))), (4, .int (iI (b : Int))), (3, .int (iI (a : Int))), (0, .ref m), (1, .int (iI (k : Int))), (2, .int (iI (n : Int)))]) rfl) ?_
          refine pe_go (pc := 151) rfl s_goto ?_
          refine pe_few (lv := [(6, .int (iI ((j + 1 : Nat) : Int))), (5, .int (iI (c : Int))), (4, .int (iI (b : Int))), (3, .int (iI (a : Int))), (0, .ref m), (1, .int (iI (k : Int))), (2, .int (iI (n : Int)))]) rfl rfl (by intro q hq; simp only [List.mem_cons, List.not_mem_nil, or_false] at hq; rcases hq with rfl | rfl | rfl | rfl | rfl | rfl | rfl <;> rfl) ?_
          refine ih (j + 1) (by omega) (fun q hq => ?_)
          by_cases g : q = j
          · subst g
            rintro ⟨⟨z1, z2, z3⟩, z4, z5, z6⟩
            omega
          · exact hP q (by omega)
        · skip
          refine pe_go rfl (s_icmp_ne_t ⟨by omega, by omega⟩ ⟨by omega, by omega⟩ c3) ?_
          refine pe_go (pc := 92) rfl (s_iconst (z := 0) rfl) ?_
          refine pe_go (pc := 93) rfl (s_istore (lv' := [(8, .int (iI 0)), (7, .int (iI ((S.rr j : Nat) : Int))), (6, .int (iI (j : Int))), (5, .int (iI (c : Int))), (4, .int (iI (b : Int))), (3, .int (iI (a : Int))), (0, .ref m), (1, .int (iI (k : Int))), (2, .int (iI (n : Int)))]) rfl) ?_
          refine pe_go (pc := 95) rfl (s_iload rfl) ?_
          refine pe_go rfl (s_if_ne_f ⟨by decide, by decide⟩ (by decide)) ?_
          refine pe_go (pc := 100) rfl (s_aload_n rfl) ?_
          refine pe_go (pc := 101) rfl (s_getf (v := .ref (m + 1)) (gA0 hm (mB_0 _ _ _)) rfl) ?_
          refine pe_go (pc := 104) rfl (s_iload_n rfl) ?_
          refine pe_go (pc := 105) rfl (s_iload rfl) ?_
          refine pe_go (pc := 107) rfl (s_iload rfl) ?_
          refine pe_call rfl (s_invV rfl (gA hm (mB_1 _ _ _)) rfl rfl) (c_side3 hm S ha hb (St.rr_lt hR (by omega))) ?_
          by_cases c4 : (S.sd3 a b (S.rr j)) < 0
          · skip
            refine pe_go rfl (s_if_lt_t (St.sd3_sm hB (by first | assumption | exact St.rr_lt hR (by omega)) (by first | assumption | exact St.rr_lt hR (by omega)) (by first | assumption | exact St.rr_lt hR (by omega))) c4) ?_
            refine pe_go (pc := 148) rfl (s_iinc (x := (j : Int)) (y := ((j + 1 : Nat) : Int)) rfl (by omega) (lv' := [(6, .int (iI ((j + 1 : Nat) : Int))), (8, .int (iI 0)), (7, .int (iI ((S.rr j : Nat) : Int))), (5, .int (iI (c : Int))), (4, .int (iI (b : Int))), (3, .int (iI (a : Int))), (0, .ref m), (1, .int (iI (k : Int))), (2, .int (iI (n : Int)))]) rfl) ?_
            refine pe_go (pc := 151) rfl s_goto ?_
            refine pe_few (lv := [(6, .int (iI ((j + 1 : Nat) : Int))), (5, .int (iI (c : Int))), (4, .int (iI (b : Int))), (3, .int (iI (a : Int))), (0, .ref m), (1, .int (iI (k : Int))), (2, .int (iI (n : Int)))]) rfl rfl (by intro q hq; simp only [List.mem_cons, List.not_mem_nil, or_false] at hq; rcases hq with rfl | rfl | rfl | rfl | rfl | rfl | rfl <;> rfl) ?_
            refine ih (j + 1) (by omega) (fun q hq => ?_)
            by_cases g : q = j
            · subst g
              rintro ⟨⟨z1, z2, z3⟩, z4, z5, z6⟩
              omega
            · exact hP q (by omega)
          · skip
            refine pe_go rfl (s_if_lt_f (St.sd3_sm hB (by first | assumption | exact St.rr_lt hR (by omega)) (by first | assumption | exact St.rr_lt hR (by omega)) (by first | assumption | exact St.rr_lt hR (by omega))) c4) ?_
            refine pe_go (pc := 115) rfl (s_aload_n rfl) ?_
            refine pe_go (pc := 116) rfl (s_getf (v := .ref (m + 1)) (gA0 hm (mB_0 _ _ _)) rfl) ?_
            refine pe_go (pc := 119) rfl (s_iload rfl) ?_
            refine pe_go (pc := 121) rfl (s_iload rfl) ?_
            refine pe_go (pc := 123) rfl (s_iload rfl) ?_
            refine pe_call rfl (s_invV rfl (gA hm (mB_1 _ _ _)) rfl rfl) (c_side3 hm S hb hc (St.rr_lt hR (by omega))) ?_
            by_cases c5 : (S.sd3 b c (S.rr j)) < 0
            · skip
              refine pe_go rfl (s_if_lt_t (St.sd3_sm hB (by first | assumption | exact St.rr_lt hR (by omega)) (by first | assumption | exact St.rr_lt hR (by omega)) (by first | assumption | exact St.rr_lt hR (by omega))) c5) ?_
              refine pe_go (pc := 148) rfl (s_iinc (x := (j : Int)) (y := ((j + 1 : Nat) : Int)) rfl (by omega) (lv' := [(6, .int (iI ((j + 1 : Nat) : Int))), (8, .int (iI 0)), (7, .int (iI ((S.rr j : Nat) : Int))), (5, .int (iI (c : Int))), (4, .int (iI (b : Int))), (3, .int (iI (a : Int))), (0, .ref m), (1, .int (iI (k : Int))), (2, .int (iI (n : Int)))]) rfl) ?_
              refine pe_go (pc := 151) rfl s_goto ?_
              refine pe_few (lv := [(6, .int (iI ((j + 1 : Nat) : Int))), (5, .int (iI (c : Int))), (4, .int (iI (b : Int))), (3, .int (iI (a : Int))), (0, .ref m), (1, .int (iI (k : Int))), (2, .int (iI (n : Int)))]) rfl rfl (by intro q hq; simp only [List.mem_cons, List.not_mem_nil, or_false] at hq; rcases hq with rfl | rfl | rfl | rfl | rfl | rfl | rfl <;> rfl) ?_
              refine ih (j + 1) (by omega) (fun q hq => ?_)
              by_cases g : q = j
              · subst g
                rintro ⟨⟨z1, z2, z3⟩, z4, z5, z6⟩
                omega
              · exact hP q (by omega)
            · skip
              refine pe_go rfl (s_if_lt_f (St.sd3_sm hB (by first | assumption | exact St.rr_lt hR (by omega)) (by first | assumption | exact St.rr_lt hR (by omega)) (by first | assumption | exact St.rr_lt hR (by omega))) c5) ?_
              refine pe_go (pc := 131) rfl (s_aload_n rfl) ?_
              refine pe_go (pc := 132) rfl (s_getf (v := .ref (m + 1)) (gA0 hm (mB_0 _ _ _)) rfl) ?_
              refine pe_go (pc := 135) rfl (s_iload rfl) ?_
              refine pe_go (pc := 137) rfl (s_iload_n rfl) ?_
              refine pe_go (pc := 138) rfl (s_iload rfl) ?_
              refine pe_call rfl (s_invV rfl (gA hm (mB_1 _ _ _)) rfl rfl) (c_side3 hm S hc ha (St.rr_lt hR (by omega))) ?_
              by_cases c6 : (S.sd3 c a (S.rr j)) < 0
              · skip
                refine pe_go rfl (s_if_lt_t (St.sd3_sm hB (by first | assumption | exact St.rr_lt hR (by omega)) (by first | assumption | exact St.rr_lt hR (by omega)) (by first | assumption | exact St.rr_lt hR (by omega))) c6) ?_
                refine pe_go (pc := 148) rfl (s_iinc (x := (j : Int)) (y := ((j + 1 : Nat) : Int)) rfl (by omega) (lv' := [(6, .int (iI ((j + 1 : Nat) : Int))), (8, .int (iI 0)), (7, .int (iI ((S.rr j : Nat) : Int))), (5, .int (iI (c : Int))), (4, .int (iI (b : Int))), (3, .int (iI (a : Int))), (0, .ref m), (1, .int (iI (k : Int))), (2, .int (iI (n : Int)))]) rfl) ?_
                refine pe_go (pc := 151) rfl s_goto ?_
                refine pe_few (lv := [(6, .int (iI ((j + 1 : Nat) : Int))), (5, .int (iI (c : Int))), (4, .int (iI (b : Int))), (3, .int (iI (a : Int))), (0, .ref m), (1, .int (iI (k : Int))), (2, .int (iI (n : Int)))]) rfl rfl (by intro q hq; simp only [List.mem_cons, List.not_mem_nil, or_false] at hq; rcases hq with rfl | rfl | rfl | rfl | rfl | rfl | rfl <;> rfl) ?_
                refine ih (j + 1) (by omega) (fun q hq => ?_)
                by_cases g : q = j
                · subst g
                  rintro ⟨⟨z1, z2, z3⟩, z4, z5, z6⟩
                  omega
                · exact hP q (by omega)
              · skip
                refine pe_go rfl (s_if_lt_f (St.sd3_sm hB (by first | assumption | exact St.rr_lt hR (by omega)) (by first | assumption | exact St.rr_lt hR (by omega)) (by first | assumption | exact St.rr_lt hR (by omega))) c6) ?_
                refine pe_go (pc := 146) rfl (s_iconst (z := 0) rfl) ?_
                exact pe_ret rfl s_ret0 ⟨by rw [decide_eq_false (show ¬ (S.ear a b c n) from (fun z => z.2 j (by omega) ⟨⟨by omega, by omega, by omega⟩, by omega, by omega, by omega⟩))], rfl⟩
theorem c_isEar {pre post : pW} {m : Nat} (hm : pre.length = m) (S : St) {k n : Nat} (hk : k < n) (hn : n ≤ 40) (hR : S.okR) (hB : S.inB) : pRun 9 [.ref m, .int (iI (k : Int)), .int (iI (n : Int))] (pre ++ (mB m S ++ post)) (some (.int (bI (decide (S.earAt k n))))) (pre ++ (mB m S ++ post)) := by
  refine qx_run ?_
  have hi0 : (k + n - 1) % n < n := Nat.mod_lt _ (by omega)
  have hi2 : (k + 1) % n < n := Nat.mod_lt _ (by omega)
  unfold St.earAt
  generalize he0 : (k + n - 1) % n = i0 at hi0 ⊢
  generalize he2 : (k + 1) % n = i2 at hi2 ⊢
  have ha := St.rr_lt hR (show i0 < 40 by omega)
  have hb := St.rr_lt hR (show k < 40 by omega)
  have hc := St.rr_lt hR (show i2 < 40 by omega)
  refine pc_run (lv := [(0, .ref m), (1, .int (iI (k : Int))), (2, .int (iI (n : Int)))]) rfl ?_
  refine pe_go (pc := 0) rfl (s_aload_n rfl) ?_
  refine pe_go (pc := 1) rfl (s_getf (v := .ref (m + 13)) (gA0 hm (mB_0 _ _ _)) rfl) ?_
  refine pe_go (pc := 4) rfl (s_iload_n rfl) ?_
  refine pe_go (pc := 5) rfl (s_iload_n rfl) ?_
  refine pe_go (pc := 6) rfl s_iadd ?_
  refine pe_go (pc := 7) rfl (s_iconst (z := 1) rfl) ?_
  refine pe_go (pc := 8) rfl s_isub ?_
  refine pe_go (pc := 9) rfl (s_iload_n rfl) ?_
  refine pe_go (pc := 10) rfl (s_irem ⟨by omega, by omega⟩ ⟨by omega, by omega⟩ (by omega) (by omega) (nmod he0 (by omega))) ?_
  refine pe_go (pc := 11) rfl (s_iald (n := 40) (f := S.rd) (v := ((S.rr i0 : Nat) : Int)) (gA hm (mB_rd _ _ _)) (k := i0) (by omega) (by omega) (by decide) (St.rr_eq hR (by omega))) ?_
  refine pe_go (pc := 12) rfl (s_istore_n (lv' := [(3, .int (iI ((S.rr i0 : Nat) : Int))), (0, .ref m), (1, .int (iI (k : Int))), (2, .int (iI (n : Int)))]) rfl) ?_
  refine pe_go (pc := 13) rfl (s_aload_n rfl) ?_
  refine pe_go (pc := 14) rfl (s_getf (v := .ref (m + 13)) (gA0 hm (mB_0 _ _ _)) rfl) ?_
  refine pe_go (pc := 17) rfl (s_iload_n rfl) ?_
  refine pe_go (pc := 18) rfl (s_iald (n := 40) (f := S.rd) (v := ((S.rr k : Nat) : Int)) (gA hm (mB_rd _ _ _)) (k := k) (by omega) (by omega) (by decide) (St.rr_eq hR (by omega))) ?_
  refine pe_go (pc := 19) rfl (s_istore (lv' := [(4, .int (iI ((S.rr k : Nat) : Int))), (3, .int (iI ((S.rr i0 : Nat) : Int))), (0, .ref m), (1, .int (iI (k : Int))), (2, .int (iI (n : Int)))]) rfl) ?_
  refine pe_go (pc := 21) rfl (s_aload_n rfl) ?_
  refine pe_go (pc := 22) rfl (s_getf (v := .ref (m + 13)) (gA0 hm (mB_0 _ _ _)) rfl) ?_
  refine pe_go (pc := 25) rfl (s_iload_n rfl) ?_
  refine pe_go (pc := 26) rfl (s_iconst (z := 1) rfl) ?_
  refine pe_go (pc := 27) rfl s_iadd ?_
  refine pe_go (pc := 28) rfl (s_iload_n rfl) ?_
  refine pe_go (pc := 29) rfl (s_irem ⟨by omega, by omega⟩ ⟨by omega, by omega⟩ (by omega) (by omega) (nmod he2 (by omega))) ?_
  refine pe_go (pc := 30) rfl (s_iald (n := 40) (f := S.rd) (v := ((S.rr i2 : Nat) : Int)) (gA hm (mB_rd _ _ _)) (k := i2) (by omega) (by omega) (by decide) (St.rr_eq hR (by omega))) ?_
  refine pe_go (pc := 31) rfl (s_istore (lv' := [(5, .int (iI ((S.rr i2 : Nat) : Int))), (4, .int (iI ((S.rr k : Nat) : Int))), (3, .int (iI ((S.rr i0 : Nat) : Int))), (0, .ref m), (1, .int (iI (k : Int))), (2, .int (iI (n : Int)))]) rfl) ?_
  refine pe_go (pc := 33) rfl (s_aload_n rfl) ?_
  refine pe_go (pc := 34) rfl (s_getf (v := .ref (m + 1)) (gA0 hm (mB_0 _ _ _)) rfl) ?_
  refine pe_go (pc := 37) rfl (s_iload_n rfl) ?_
  refine pe_go (pc := 38) rfl (s_iload rfl) ?_
  refine pe_go (pc := 40) rfl (s_iload rfl) ?_
  refine pe_call rfl (s_invV rfl (gA hm (mB_1 _ _ _)) rfl rfl) (c_side3 hm S (St.rr_lt hR (by omega)) (St.rr_lt hR (by omega)) (St.rr_lt hR (by omega))) ?_
  by_cases c1 : 0 < (S.sd3 (S.rr i0) (S.rr k) (S.rr i2))
  · skip
    refine pe_go rfl (s_if_gt_t (St.sd3_sm hB (by first | assumption | exact St.rr_lt hR (by omega)) (by first | assumption | exact St.rr_lt hR (by omega)) (by first | assumption | exact St.rr_lt hR (by omega))) c1) ?_
    refine pe_go (pc := 50) rfl (s_iconst (z := 0) rfl) ?_
    refine pe_go (pc := 51) rfl (s_istore (lv' := [(6, .int (iI 0)), (5, .int (iI ((S.rr i2 : Nat) : Int))), (4, .int (iI ((S.rr k : Nat) : Int))), (3, .int (iI ((S.rr i0 : Nat) : Int))), (0, .ref m), (1, .int (iI (k : Int))), (2, .int (iI (n : Int)))]) rfl) ?_
    refine pe_few (lv := [(6, .int (iI ((0 : Nat) : Int))), (5, .int (iI ((S.rr i2 : Nat) : Int))), (4, .int (iI ((S.rr k : Nat) : Int))), (3, .int (iI ((S.rr i0 : Nat) : Int))), (0, .ref m), (1, .int (iI (k : Int))), (2, .int (iI (n : Int)))]) rfl rfl (by intro q hq; simp only [List.mem_cons, List.not_mem_nil, or_false] at hq; rcases hq with rfl | rfl | rfl | rfl | rfl | rfl | rfl <;> rfl) ?_
    exact l_ear hm S ha hb hc hn hR hB (by omega) n 0 (by omega) (fun q hq => by omega)
  · skip
    refine pe_go rfl (s_if_gt_f (St.sd3_sm hB (by first | assumption | exact St.rr_lt hR (by omega)) (by first | assumption | exact St.rr_lt hR (by omega)) (by first | assumption | exact St.rr_lt hR (by omega))) c1) ?_
    refine pe_go (pc := 48) rfl (s_iconst (z := 0) rfl) ?_
    exact pe_ret rfl s_ret0 ⟨by rw [decide_eq_false (show ¬ (S.ear (S.rr i0) (S.rr k) (S.rr i2) n) from (fun z => absurd z.1 (by omega)))], rfl⟩
