/-! THE CLASS: a point taken out. Rows laid by program (wip/p63/wk.py, mk39f.py). -/
/-- an ear cut off a round of n, or none found -/
def St.cutS (S : St) (n : Nat) (S' : St) : Prop := (∃ k : Nat, ∃ rd : Nat → Int, k < n ∧ S.earAt k n ∧ (∀ i : Nat, rd i = shf S.rd k n i) ∧ S' = (S.put (S.rr ((k + n - 1) % n)) (S.rr k) (S.rr ((k + 1) % n))).u_rd rd) ∨ ((∀ k : Nat, k < n → ¬ S.earAt k n) ∧ S' = S)
/-- ears cut, d of them, off a round of n -/
def St.cuts : Nat → Nat → St → St → Prop
  | 0, _, S, S' => S' = S
  | d + 1, n, S, S' => ∃ S1 : St, S.cutS n S1 ∧ St.cuts d (n - 1) S1 S'
theorem St.cutS_ok {S S' : St} {n : Nat} (hn : n ≤ 40) (h : S.wI) (hR : S.okR) (hc : S.cutS n S') : S'.wI ∧ S'.okR := by
  rcases hc with ⟨k, rd, hk, -, hrd, rfl⟩ | ⟨-, rfl⟩
  · have hi0 : (k + n - 1) % n < n := Nat.mod_lt _ (by omega)
    have hi2 : (k + 1) % n < n := Nat.mod_lt _ (by omega)
    have hw := St.put_wI (St.rr_lt hR (show (k + n - 1) % n < 40 by omega)) (St.rr_lt hR (show k < 40 by omega)) (St.rr_lt hR (show (k + 1) % n < 40 by omega)) h
    refine ⟨⟨hw.A, hw.Q, hw.B, hw.I, hw.U, hw.CN⟩, fun j hj => ?_⟩
    show 0 ≤ rd j ∧ rd j < 40
    rw [hrd j]
    unfold shf
    split
    · exact hR (j + 1) (by omega)
    · exact hR j hj
  · exact ⟨h, hR⟩
def outW (pre post : pW) (m : Nat) (S : St) (d n : Nat) (r : Option Value) (w' : pW) : Prop := ∃ S' : St, St.cuts d n S S' ∧ setW pre post m S' r w'
theorem l_out {pre post : pW} {m : Nat} (hm : pre.length = m) {p n : Nat} : ∀ (d j : Nat) (S : St), j = d + 2 → j ≤ 40 → S.wI → S.okR → (∀ S' : St, St.cuts d j S S' → S'.setL) → qE 7 (50, [(3, .int (iI (j : Int))), (0, .ref m), (1, .int (iI (p : Int))), (2, .int (iI (n : Int)))], [], (pre ++ (mB m S ++ post))) (outW pre post m S d j) := by
  intro d
  induction d with
  | zero =>
    intro j S hj hj2 h hR hL
    refine pe_go (pc := 50) rfl (s_iload_n rfl) ?_
    refine pe_go (pc := 51) rfl (s_iconst (z := 3) rfl) ?_
    refine pe_go rfl (s_icmp_lt_t ⟨by omega, by omega⟩ ⟨by decide, by decide⟩ (by omega)) ?_
    refine pe_go (pc := 66) rfl (s_aload_n rfl) ?_
    refine pe_callE rfl (s_invV rfl (gA0 hm (mB_0 _ _ _)) rfl rfl) (c_settle hm S h (hL S rfl)) ?_
    rintro _ _ hW1
    obtain ⟨li9, hli9, hr9, hW9⟩ := hW1
    subst hr9
    exact pe_ret rfl s_retv ⟨S, rfl, li9, hli9, rfl, hW9⟩
  | succ d ih =>
    intro j S hj hj2 h hR hL
    refine pe_go (pc := 50) rfl (s_iload_n rfl) ?_
    refine pe_go (pc := 51) rfl (s_iconst (z := 3) rfl) ?_
    refine pe_go rfl (s_icmp_lt_f ⟨by omega, by omega⟩ ⟨by decide, by decide⟩ (by omega)) ?_
    refine pe_go (pc := 55) rfl (s_aload_n rfl) ?_
    refine pe_go (pc := 56) rfl (s_iload_n rfl) ?_
    refine pe_callE rfl (s_invV rfl (gA0 hm (mB_0 _ _ _)) rfl rfl) (c_cutEar hm S (n := j) (by omega) hR h) ?_
    rintro _ w1 ⟨rfl, hc1⟩
    obtain ⟨S1, hS1, hw1⟩ : ∃ S1 : St, S.cutS j S1 ∧ w1 = pre ++ (mB m S1 ++ post) := by
      rcases hc1 with ⟨k, rd, g1, g2, g3, g4⟩ | ⟨g1, g2⟩
      · exact ⟨_, Or.inl ⟨k, rd, g1, g2, g3, rfl⟩, g4⟩
      · exact ⟨_, Or.inr ⟨g1, rfl⟩, g2⟩
    subst hw1
    have hok := St.cutS_ok (by omega) h hR hS1
    refine pe_go (pc := 60) rfl (s_iinc (x := (j : Int)) (y := (j : Int) + (-1)) rfl (by omega) (lv' := [(3, .int (iI ((j : Int) + (-1)))), (0, .ref m), (1, .int (iI (p : Int))), (2, .int (iI (n : Int)))]) rfl) ?_
    refine pe_go (pc := 63) rfl s_goto ?_
    skip
    have e9 : (j : Int) + (-1) = ((j - 1 : Nat) : Int) := by omega
    rw [e9]
    refine pe_few (lv := [(3, .int (iI ((j - 1 : Nat) : Int))), (0, .ref m), (1, .int (iI (p : Int))), (2, .int (iI (n : Int)))]) rfl rfl (by intro q hq; simp only [List.mem_cons, List.not_mem_nil, or_false] at hq; rcases hq with rfl | rfl | rfl | rfl <;> rfl) ?_
    refine pe_mono ?_ (ih (j - 1) S1 (by omega) (by omega) hok.1 hok.2 (fun S2 h2 => hL S2 ⟨S1, hS1, h2⟩))
    rintro r9 w9 ⟨S2, h2, h3⟩
    exact ⟨S2, ⟨S1, hS1, h2⟩, h3⟩
