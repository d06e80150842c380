/-! THE CLASS: rows laid anew, a state given back, the mesh at first. Rows laid by program (wip/p63/wk.py, wo.py, mk79.py). -/
theorem c_listV {pre post : pW} {m : Nat} (hm : pre.length = m) (S : St) (hL : S.okL) (hCN : S.okC ∧ S.okN) : qC 26 [.ref m] (pre ++ (mB m S ++ post)) (listW pre post m S) := c_list hm S hL hCN
def layW (pre post : pW) (m : Nat) (S : St) (c : Nat → Int) (T : Nat) (r : Option Value) (w' : pW) : Prop := ∃ f li : Nat → Int, (∀ i : Nat, i < 1600 → f i = -1) ∧ (∀ j : Nat, j < 40 → li j = S.liR j) ∧ listW pre post m ((layR c T (S.u_ap f)).u_li li) r w'
def St.layL (S : St) (c : Nat → Int) (T : Nat) : Prop := ∀ f li : Nat → Int, (∀ i : Nat, i < 1600 → f i = -1) → (∀ j : Nat, j < 40 → li j = S.liR j) → ((layR c T (S.u_ap f)).u_li li).okL
theorem l_layAll {pre post : pW} {m : Nat} (hm : pre.length = m) (S : St) {a : Nat} {num : Nat → Int} (hrow : ∀ T9 : St, (pre ++ (mB m T9 ++ post))[a]? = some (.inl (0, 7581, .inl (fun j => iI (num j))))) {p0 T : Nat} (hb9 : ∀ j : Nat, j < 3 * T → 0 ≤ num (p0 + j) ∧ num (p0 + j) < 40) (hp0 : p0 + 3 * T ≤ 7581) (hT2 : T ≤ 74) (h : S.inB) (hCN : S.okC ∧ S.okN) (hL : S.layL (fun j => num (p0 + j)) T) {f : Nat → Int} (hf : ∀ i : Nat, i < 1600 → f i = -1) : ∀ (n t : Nat), t + n = T → qE 3 (11, [(4, .int (iI (t : Int))), (0, .ref m), (1, .ref a), (2, .int (iI (p0 : Int))), (3, .int (iI (T : Int)))], [], pre ++ (mB m (layR (fun j => num (p0 + j)) t (S.u_ap f)) ++ post)) (layW pre post m S (fun j => num (p0 + j)) T) := by
  intro n
  induction n with
  | zero =>
    intro t hp
    refine pe_go (pc := 11) rfl (s_iload rfl) ?_
    refine pe_go (pc := 13) rfl (s_iload_n rfl) ?_
    refine pe_go rfl (s_icmp_ge_t ⟨by omega, by omega⟩ ⟨by omega, by omega⟩ (by omega)) ?_
    obtain ⟨ap9, e9⟩ := layR_O (fun j => num (p0 + j)) T (S.u_ap f)
    rw [show t = T by omega, e9]
    refine pe_go (pc := 58) rfl (s_aload_n rfl) ?_
    refine pe_callE rfl (s_invV rfl (gA0 hm (mB_0 _ _ _)) rfl rfl) (c_liftRound hm ((S.u_ap f).u_ap ap9) h) ?_
    rintro _ _ ⟨rfl, li1, hli1, rfl⟩
    refine pe_go (pc := 62) rfl (s_aload_n rfl) ?_
    refine pe_callE rfl (s_invV rfl (gA0 hm (mB_0 _ _ _)) rfl rfl) (c_listV hm (((S.u_ap f).u_ap ap9).u_li li1) (by have := hL f li1 hf hli1; rw [e9] at this; exact this) hCN) ?_
    rintro _ _ ⟨rfl, hW2⟩
    exact pe_ret rfl s_retv ⟨f, li1, hf, hli1, by rw [e9]; exact ⟨rfl, hW2⟩⟩
  | succ n ih =>
    intro t hp
    refine pe_go (pc := 11) rfl (s_iload rfl) ?_
    refine pe_go (pc := 13) rfl (s_iload_n rfl) ?_
    refine pe_go rfl (s_icmp_ge_f ⟨by omega, by omega⟩ ⟨by omega, by omega⟩ (by omega)) ?_
    refine pe_go (pc := 17) rfl (s_iload rfl) ?_
    refine pe_go (pc := 19) rfl (s_bipush (z := 74) rfl) ?_
    refine pe_go rfl (s_icmp_ge_f ⟨by omega, by omega⟩ ⟨by decide, by decide⟩ (by omega)) ?_
    refine pe_go (pc := 24) rfl (s_iload_n rfl) ?_
    refine pe_go (pc := 25) rfl (s_iconst (z := 3) rfl) ?_
    refine pe_go (pc := 26) rfl (s_iload rfl) ?_
    refine pe_go (pc := 28) rfl s_imul ?_
    refine pe_go (pc := 29) rfl s_iadd ?_
    refine pe_go (pc := 30) rfl (s_istore (lv' := [(5, .int (iI ((p0 : Int) + (3 * (t : Int))))), (4, .int (iI (t : Int))), (0, .ref m), (1, .ref a), (2, .int (iI (p0 : Int))), (3, .int (iI (T : Int)))]) rfl) ?_
    refine pe_go (pc := 32) rfl (s_aload_n rfl) ?_
    refine pe_go (pc := 33) rfl (s_aload_n rfl) ?_
    refine pe_go (pc := 34) rfl (s_iload rfl) ?_
    refine pe_go (pc := 36) rfl (s_iald (n := 7581) (f := num) (v := ((num (p0 + 3 * t)).toNat : Int)) (hrow _) (k := p0 + (3 * t)) (by omega) (by omega) (by decide) (by have := hb9 (3 * t) (by omega); rw [show p0 + (3 * t) = p0 + 3 * t by omega] at this; show num (p0 + 3 * t) = _; omega)) ?_
    refine pe_go (pc := 37) rfl (s_aload_n rfl) ?_
    refine pe_go (pc := 38) rfl (s_iload rfl) ?_
    refine pe_go (pc := 40) rfl (s_iconst (z := 1) rfl) ?_
    refine pe_go (pc := 41) rfl s_iadd ?_
    refine pe_go (pc := 42) rfl (s_iald (n := 7581) (f := num) (v := ((num (p0 + 3 * t + 1)).toNat : Int)) (hrow _) (k := (p0 + (3 * t)) + 1) (by omega) (by omega) (by decide) (by have := hb9 (3 * t + 1) (by omega); rw [show p0 + (3 * t + 1) = p0 + 3 * t + 1 by omega] at this; show num (p0 + 3 * t + 1) = _; omega)) ?_
    refine pe_go (pc := 43) rfl (s_aload_n rfl) ?_
    refine pe_go (pc := 44) rfl (s_iload rfl) ?_
    refine pe_go (pc := 46) rfl (s_iconst (z := 2) rfl) ?_
    refine pe_go (pc := 47) rfl s_iadd ?_
    refine pe_go (pc := 48) rfl (s_iald (n := 7581) (f := num) (v := ((num (p0 + 3 * t + 2)).toNat : Int)) (hrow _) (k := (p0 + (3 * t)) + 2) (by omega) (by omega) (by decide) (by have := hb9 (3 * t + 2) (by omega); rw [show p0 + (3 * t + 2) = p0 + 3 * t + 2 by omega] at this; show num (p0 + 3 * t + 2) = _; omega)) ?_
    refine pe_call rfl (s_invV rfl (gA0 hm (mB_0 _ _ _)) rfl rfl) (c_lay hm (layR (fun j => num (p0 + j)) t (S.u_ap f)) (by have := hb9 (3 * t) (by omega); omega) (by have := hb9 (3 * t + 1) (by omega); show (num (p0 + 3 * t + 1)).toNat < 40; rw [show p0 + 3 * t + 1 = p0 + (3 * t + 1) by omega]; omega) (by have := hb9 (3 * t + 2) (by omega); show (num (p0 + 3 * t + 2)).toNat < 40; rw [show p0 + 3 * t + 2 = p0 + (3 * t + 2) by omega]; omega)) ?_
    refine pe_go (pc := 52) rfl (s_iinc (x := (t : Int)) (y := ((t + 1 : Nat) : Int)) rfl (by omega) (lv' := [(4, .int (iI ((t + 1 : Nat) : Int))), (5, .int (iI ((p0 : Int) + (3 * (t : Int))))), (0, .ref m), (1, .ref a), (2, .int (iI (p0 : Int))), (3, .int (iI (T : Int)))]) rfl) ?_
    refine pe_go (pc := 55) rfl s_goto ?_
    refine pe_few (lv := [(4, .int (iI ((t + 1 : Nat) : Int))), (0, .ref m), (1, .ref a), (2, .int (iI (p0 : Int))), (3, .int (iI (T : Int)))]) rfl rfl (by intro q hq; simp only [List.mem_cons, List.not_mem_nil, or_false] at hq; rcases hq with rfl | rfl | rfl | rfl | rfl <;> rfl) ?_
    exact ih (t + 1) (by omega)
theorem c_layAll {pre post : pW} {m : Nat} (hm : pre.length = m) (S : St) {a : Nat} {num : Nat → Int} (hrow : ∀ T9 : St, (pre ++ (mB m T9 ++ post))[a]? = some (.inl (0, 7581, .inl (fun j => iI (num j))))) {p0 T : Nat} (hb9 : ∀ j : Nat, j < 3 * T → 0 ≤ num (p0 + j) ∧ num (p0 + j) < 40) (hp0 : p0 + 3 * T ≤ 7581) (hT2 : T ≤ 74) (h : S.inB) (hCN : S.okC ∧ S.okN) (hL : S.layL (fun j => num (p0 + j)) T) : qC 3 [.ref m, .ref a, .int (iI (p0 : Int)), .int (iI (T : Int))] (pre ++ (mB m S ++ post)) (layW pre post m S (fun j => num (p0 + j)) T) := by
  refine pc_run (lv := [(0, .ref m), (1, .ref a), (2, .int (iI (p0 : Int))), (3, .int (iI (T : Int)))]) rfl ?_
  refine pe_go (pc := 0) rfl (s_aload_n rfl) ?_
  refine pe_go (pc := 1) rfl (s_getf (v := .ref (m + 8)) (gA0 hm (mB_0 _ _ _)) rfl) ?_
  refine pe_go (pc := 4) rfl (s_iconst (z := -1) rfl) ?_
  refine pe_callE rfl (s_invS rfl rfl rfl) (c_fillAp hm _) ?_
  rintro _ _ ⟨rfl, f1, hf1, rfl⟩
  refine pe_go (pc := 8) rfl (s_iconst (z := 0) rfl) ?_
  refine pe_go (pc := 9) rfl (s_istore (lv' := [(4, .int (iI 0)), (0, .ref m), (1, .ref a), (2, .int (iI (p0 : Int))), (3, .int (iI (T : Int)))]) rfl) ?_
  refine pe_few (lv := [(4, .int (iI ((0 : Nat) : Int))), (0, .ref m), (1, .ref a), (2, .int (iI (p0 : Int))), (3, .int (iI (T : Int)))]) rfl rfl (by intro q hq; simp only [List.mem_cons, List.not_mem_nil, or_false] at hq; rcases hq with rfl | rfl | rfl | rfl | rfl <;> rfl) ?_
  exact l_layAll hm S hrow hb9 hp0 hT2 h hCN hL hf1 T 0 (by omega)
theorem oX_row {pre post : pW} {b k : Nat} {c : pCell} (hb : pre.length = b) {X : pW} (h : ∀ T9 : St, (mB (b + 1) T9 ++ X)[k]? = some c) : ∀ T9 : St, ((pre ++ oC (b + 1)) ++ (mB (b + 1) T9 ++ X))[b + 1 + k]? = some c := fun T9 => gA (oC_len hb) (h T9)
