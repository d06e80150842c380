/-! THE CLASS: a point taken out, whole. Rows laid by program (wip/p63/wk.py, mk39g.py). -/
/-- the triangles of a round taken off -/
def St.stp (p n : Nat) : Nat → Nat → St → St
  | 0, _, S => S
  | d + 1, k, S => St.stp p n d (k + 1) (S.strip p (S.rr k) (S.rr ((k + 1) % n)))
def St.rem (S : St) (p : Nat) : St := sM S.xs S.ys S.hs S.fx S.hx S.hy (bClr S.th p) S.hn S.g S.ap S.ow S.co S.en S.ne S.rd S.tn S.ec S.li S.wa S.qu S.qn
theorem St.stp_ok (p n : Nat) : ∀ (d k : Nat) (S : St), S.wI → S.okR → (St.stp p n d k S).wI ∧ (St.stp p n d k S).okR := by
  intro d
  induction d with
  | zero => intro k S h hR; exact ⟨h, hR⟩
  | succ d ih => intro k S h hR; exact ih (k + 1) _ (St.strip_wI h) hR
theorem St.rem_ok {S : St} {p : Nat} (h : S.wI) (hR : S.okR) : (S.rem p).wI ∧ (S.rem p).okR := ⟨⟨h.A, h.Q, h.B, h.I, h.U, h.CN⟩, hR⟩
theorem l_strips {pre post : pW} {m : Nat} (hm : pre.length = m) {p n : Nat} (hp : p < 40) (hn : n ≤ 40) (Φ : Option Value → pW → Prop) : ∀ (d k : Nat) (S : St), k + d = n → S.okR → qE 7 (50, [(3, .int (iI (n : Int))), (0, .ref m), (1, .int (iI (p : Int))), (2, .int (iI (n : Int)))], [], pre ++ (mB m ((St.stp p n d k S).rem p) ++ post)) Φ → qE 7 (8, [(3, .int (iI (k : Int))), (0, .ref m), (1, .int (iI (p : Int))), (2, .int (iI (n : Int)))], [], (pre ++ (mB m S ++ post))) Φ := by
  intro d
  induction d with
  | zero =>
    intro k S hk hR K
    refine pe_go (pc := 8) rfl (s_iload_n rfl) ?_
    refine pe_go (pc := 9) rfl (s_iload_n rfl) ?_
    refine pe_go rfl (s_icmp_ge_t ⟨by omega, by omega⟩ ⟨by omega, by omega⟩ (by omega)) ?_
    refine pe_go (pc := 40) rfl (s_aload_n rfl) ?_
    refine pe_go (pc := 41) rfl (s_getf (v := .ref (m + 1)) (gA0 hm (mB_0 _ _ _)) rfl) ?_
    refine pe_go (pc := 44) rfl (s_iload_n rfl) ?_
    refine pe_call rfl (s_invV rfl (gA hm (mB_1 _ _ _)) rfl rfl) (c_remove hm S hp) ?_
    refine pe_go (pc := 48) rfl (s_iload_n rfl) ?_
    refine pe_go (pc := 49) rfl (s_istore_n (lv' := [(3, .int (iI (n : Int))), (0, .ref m), (1, .int (iI (p : Int))), (2, .int (iI (n : Int)))]) rfl) ?_
    refine pe_few (lv := [(3, .int (iI (n : Int))), (0, .ref m), (1, .int (iI (p : Int))), (2, .int (iI (n : Int)))]) rfl rfl (by intro q hq; simp only [List.mem_cons, List.not_mem_nil, or_false] at hq; rcases hq with rfl | rfl | rfl | rfl <;> rfl) ?_
    exact K
  | succ d ih =>
    intro k S hk hR K
    have hi2 : (k + 1) % n < n := Nat.mod_lt _ (by omega)
    obtain ⟨i2, he2⟩ : ∃ i : Nat, (k + 1) % n = i := ⟨_, rfl⟩
    rw [he2] at hi2
    refine pe_go (pc := 8) rfl (s_iload_n rfl) ?_
    refine pe_go (pc := 9) rfl (s_iload_n rfl) ?_
    refine pe_go rfl (s_icmp_ge_f ⟨by omega, by omega⟩ ⟨by omega, by omega⟩ (by omega)) ?_
    refine pe_go (pc := 13) rfl (s_aload_n rfl) ?_
    refine pe_go (pc := 14) rfl (s_iload_n rfl) ?_
    refine pe_go (pc := 15) rfl (s_aload_n rfl) ?_
    refine pe_go (pc := 16) rfl (s_getf (v := .ref (m + 13)) (gA0 hm (mB_0 _ _ _)) rfl) ?_
    refine pe_go (pc := 19) rfl (s_iload_n rfl) ?_
    refine pe_go (pc := 20) rfl (s_iald (n := 40) (f := S.rd) (v := ((S.rr k : Nat) : Int)) (gA hm (mB_rd _ _ _)) (k := k) (by omega) (by omega) (by decide) (St.rr_eq hR (by omega))) ?_
    refine pe_go (pc := 21) rfl (s_aload_n rfl) ?_
    refine pe_go (pc := 22) rfl (s_getf (v := .ref (m + 13)) (gA0 hm (mB_0 _ _ _)) rfl) ?_
    refine pe_go (pc := 25) rfl (s_iload_n rfl) ?_
    refine pe_go (pc := 26) rfl (s_iconst (z := 1) rfl) ?_
    refine pe_go (pc := 27) rfl s_iadd ?_
    refine pe_go (pc := 28) rfl (s_iload_n rfl) ?_
    refine pe_go (pc := 29) rfl (s_irem ⟨by omega, by omega⟩ ⟨by omega, by omega⟩ (by omega) (by omega) (nmod he2 (by omega))) ?_
    refine pe_go (pc := 30) rfl (s_iald (n := 40) (f := S.rd) (v := ((S.rr i2 : Nat) : Int)) (gA hm (mB_rd _ _ _)) (k := i2) (by omega) (by omega) (by decide) (St.rr_eq hR (by omega))) ?_
    refine pe_call rfl (s_invV rfl (gA0 hm (mB_0 _ _ _)) rfl rfl) (c_strip hm S hp (St.rr_lt hR (show k < 40 by omega)) (St.rr_lt hR (show i2 < 40 by omega))) ?_
    refine pe_go (pc := 34) rfl (s_iinc (x := (k : Int)) (y := ((k + 1 : Nat) : Int)) rfl (by omega) (lv' := [(3, .int (iI ((k + 1 : Nat) : Int))), (0, .ref m), (1, .int (iI (p : Int))), (2, .int (iI (n : Int)))]) rfl) ?_
    refine pe_go (pc := 37) rfl s_goto ?_
    refine pe_few (lv := [(3, .int (iI ((k + 1 : Nat) : Int))), (0, .ref m), (1, .int (iI (p : Int))), (2, .int (iI (n : Int)))]) rfl rfl (by intro q hq; simp only [List.mem_cons, List.not_mem_nil, or_false] at hq; rcases hq with rfl | rfl | rfl | rfl <;> rfl) ?_
    refine ih (k + 1) _ (by omega) hR ?_
    rw [← he2]
    exact K
def tkW (pre post : pW) (m : Nat) (S : St) (p v0 : Nat) (r : Option Value) (w' : pW) : Prop := ∃ n : Nat, ∃ rd : Nat → Int, S.rnd p v0 n ∧ (∀ j : Nat, j < n → rd j = (S.it p v0 j : Int)) ∧ (∀ j : Nat, n ≤ j → rd j = S.rd j) ∧ outW pre post m ((St.stp p n n 0 (S.u_rd rd)).rem p) (n - 2) n r w'
theorem c_takeOut {pre post : pW} {m : Nat} (hm : pre.length = m) (S : St) {p v0 : Nat} (hp : p < 40) (hv0 : v0 < 40) (h : S.wI) (hR : S.okR) (hf : S.frF p 40 0 (-1) = (v0 : Int)) (hit : ∀ j : Nat, S.it p v0 j < 40) (hL : ∀ (n : Nat) (rd : Nat → Int), S.rnd p v0 n → (∀ j : Nat, j < n → rd j = (S.it p v0 j : Int)) → (∀ j : Nat, n ≤ j → rd j = S.rd j) → 2 ≤ n ∧ ∀ S' : St, St.cuts (n - 2) n ((St.stp p n n 0 (S.u_rd rd)).rem p) S' → S'.setL) : qC 7 [.ref m, .int (iI (p : Int))] (pre ++ (mB m S ++ post)) (tkW pre post m S p v0) := by
  refine pc_run (lv := [(0, .ref m), (1, .int (iI (p : Int)))]) rfl ?_
  refine pe_go (pc := 0) rfl (s_aload_n rfl) ?_
  refine pe_go (pc := 1) rfl (s_iload_n rfl) ?_
  refine pe_callE rfl (s_invV rfl (gA0 hm (mB_0 _ _ _)) rfl rfl) (c_goRound hm S hp hv0 h.A hf) ?_
  rintro _ _ ⟨n, rd, rfl, hn1, hrd, hrs, rfl⟩
  refine pe_go (pc := 5) rfl (s_istore_n (lv' := [(2, .int (iI (n : Int))), (0, .ref m), (1, .int (iI (p : Int)))]) rfl) ?_
  refine pe_go (pc := 6) rfl (s_iconst (z := 0) rfl) ?_
  refine pe_go (pc := 7) rfl (s_istore_n (lv' := [(3, .int (iI 0)), (2, .int (iI (n : Int))), (0, .ref m), (1, .int (iI (p : Int)))]) rfl) ?_
  have hn40 : n ≤ 40 := hn1.2.1
  obtain ⟨hn2, hL2⟩ := hL n rd hn1 hrd hrs
  have hR1 : (S.u_rd rd).okR := fun j hj => by
    show 0 ≤ rd j ∧ rd j < 40
    by_cases g : j < n
    · have := hit j
      rw [hrd j g]
      omega
    · rw [hrs j (by omega)]
      exact hR j hj
  have h1 : (S.u_rd rd).wI := ⟨h.A, h.Q, h.B, h.I, h.U, h.CN⟩
  have ok := St.stp_ok p n n 0 _ h1 hR1
  have ok2 := St.rem_ok (p := p) ok.1 ok.2
  refine pe_few (lv := [(3, .int (iI ((0 : Nat) : Int))), (0, .ref m), (1, .int (iI (p : Int))), (2, .int (iI (n : Int)))]) rfl rfl (by intro q hq; simp only [List.mem_cons, List.not_mem_nil, or_false] at hq; rcases hq with rfl | rfl | rfl | rfl <;> rfl) ?_
  refine l_strips hm hp hn40 _ n 0 (S.u_rd rd) (by omega) hR1 ?_
  refine pe_mono ?_ (l_out hm (n - 2) n _ (by omega) hn40 ok2.1 ok2.2 hL2)
  intro r9 w9 h9
  exact ⟨n, rd, hn1, hrd, hrs, h9⟩
