/-! THE CLASS: rows laid anew, a state given back, the mesh at first. Rows laid by program (wip/p63/wk.py, wo.py, mk79.py). -/
theorem c_listV {pre post : pW} {m : Nat} (hm : pre.length = m) (S : St) (hL : S.okL) (hCN : S.okC ∧ S.okN) : qC 26 [.ref m] (pre ++ (mB m S ++ post)) (listW pre post m S) := c_list hm S hL hCN
def layW (pre post : pW) (m : Nat) (S : St) (c : Nat → Int) (T : Nat) (r : Option Value) (w' : pW) : Prop := ∃ f li : Nat → Int, (∀ i : Nat, i < 1600 → f i = -1) ∧ (∀ j : Nat, j < 40 → li j = S.liR j) ∧ listW pre post m ((layR c T (S.u_ap f)).u_li li) r w'
def St.layL (S : St) (c : Nat → Int) (T : Nat) : Prop := ∀ f li : Nat → Int, (∀ i : Nat, i < 1600 → f i = -1) → (∀ j : Nat, j < 40 → li j = S.liR j) → ((layR c T (S.u_ap f)).u_li li).okL
theorem l_layAll {pre post : pW} {m : Nat} (hm : pre.length = m) (S : St) {a : Nat} {num : Nat → Int} (hrow : ∀ T9 : St, (pre ++ (mB m T9 ++ post))[a]? = some (.inl (0, 7581, .inl (fun j => iI (num j))))) {p0 T : Nat} (hb9 : ∀ j : Nat, j < 3 * T → 0 ≤ num (p0 + j) ∧ num (p0 + j) < 40) (hp0 : p0 + 3 * T ≤ 7581) (hT2 : T ≤ 74) (h : S.inB) (hCN : S.okC ∧ S.okN) (hL : S.layL (fun j => num (p0 + j)) T) {f : Nat → Int} (hf : ∀ i : Nat, i < 1600 → f i = -1) : ∀ (n t : Nat), t + n = T → qE 3 (11, [(4, .int (iI (t : Int))), (0, .ref m), (1, .ref a), (2, .int (iI (p0 : Int))), (3, .int (iI (T : Int)))], [], pre ++ (mB m (layR (fun j => num (p0 + j)) t (S.u_ap f)) ++ post)) (layW pre post m S (fun j => num (p0 + j)) T) := by
  intro n
  induction n with
  | zero =>
    intro t hp
    refine pe_go (pc := 11) rfl (s_iload rfl) ?_
    refine pe_go (pc := 13) rfl (s_iload_n rfl) ?_
    refine pe_go rfl (s_icmp_ge_t ⟨by omega, by omega⟩ ⟨by omega, by omega⟩ (by omega)) ?_
    obtain ⟨ap9, e9⟩ := layR_O (fun j => num (p0 + j)) T (S.u_ap f)
    rw [show t = T by omega, e9]
    refine pe_go (pc := 58) rfl (s_aload_n rfl) ?_
    refine pe_callE rfl (s_invV rfl (gA0 hm (mB_0 _ _ _)) rfl rfl) (c_liftRound hm ((S.u_ap f).u_ap ap9) h) ?_
    rintro _ _ ⟨rfl, li1, hli1, rfl⟩
    refine pe_go (pc := 62) rfl (s_aload_n rfl) ?_
    refine pe_callE rfl (s_invV rfl (gA0 hm (mB_0 _ _ _)) rfl rfl) (c_listV hm (((S.u_ap f).u_ap ap9).u_li li1) (by have := hL f li1 hf hli1; rw [e9] at this; exact this) hCN) ?_
    rintro _ _ ⟨rfl, hW2⟩
    exact pe_ret rfl s_retv ⟨f, li1, hf, hli1, by rw [e9]; exact ⟨rfl, hW2⟩⟩
  | succ n ih =>
    intro t hp
    refine pe_go (pc := 11) rfl (s_iload rfl) ?_
    refine pe_go (pc := 13) rfl (s_iload_n rfl) ?_
    refine pe_go rfl (s_icmp_ge_f ⟨by omega, by omega⟩ ⟨by omega, by omega⟩ (by omega)) ?_
    refine pe_go (pc := 17) rfl (s_iload rfl) ?_
    refine pe_go (pc := 19) rfl (s_bipush (z := 74) rfl) ?_
    refine pe_go rfl (s_icmp_ge_f ⟨by omega, by omega⟩ ⟨by decide, by decide⟩ (by omega)) ?_
    refine pe_go (pc := 24) rfl (s_iload_n rfl) ?_
    refine pe_go (pc := 25) rfl (s_iconst (z := 3) rfl) ?_
    refine pe_go (pc := 26) rfl (s_iload rfl) ?_
    refine pe_go (pc := 28) rfl s_imul ?_
    refine pe_go (pc := 29) rfl s_iadd ?_
    refine pe_go (pc := 30) rfl (s_istore (lv' := [(5, .int (iI ((p0 : Int) + (3 * (t : Int))))), (4, .int (iI (t : Int))), (0, .ref m), (1, .ref a), (2, .int (iI (p0 : Int))), (3, .int (iI (T : Int)))]) rfl) ?_
    refine pe_go (pc := 32) rfl (s_aload_n rfl) ?_
    refine pe_go (pc := 33) rfl (s_aload_n rfl) ?_
    refine pe_go (pc := 34) rfl (s_iload rfl) ?_
    refine pe_go (pc := 36) rfl (s_iald (n := 7581) (f := num) (v := ((num (p0 + 3 * t)).toNat : Int)) (hrow _) (k := p0 + (3 * t)) (by omega) (by omega) (by decide) (by have := hb9 (3 * t) (by omega); rw [show p0 + (3 * t) = p0 + 3 * t by omega] at this; show num (p0 + 3 * t) = _; omega)) ?_
    refine pe_go (pc := 37) rfl (s_aload_n rfl) ?_
    refine pe_go (pc := 38) rfl (s_iload rfl) ?_
    refine pe_go (pc := 40) rfl (s_iconst (z := 1) rfl) ?_
    refine pe_go (pc := 41) rfl s_iadd ?_
    refine pe_go (pc := 42) rfl (s_iald (n := 7581) (f := num) (v := ((num (p0 + 3 * t + 1)).toNat : Int)) (hrow _) (k := (p0 + (3 * t)) + 1) (by omega) (by omega) (by decide) (by have := hb9 (3 * t + 1) (by omega); rw [show p0 + (3 * t + 1) = p0 + 3 * t + 1 by omega] at this; show num (p0 + 3 * t + 1) = _; omega)) ?_
    refine pe_go (pc := 43) rfl (s_aload_n rfl) ?_
    refine pe_go (pc := 44) rfl (s_iload rfl) ?_
    refine pe_go (pc := 46) rfl (s_iconst (z := 2) rfl) ?_
    refine pe_go (pc := 47) rfl s_iadd ?_
    refine pe_go (pc := 48) rfl (s_iald (n := 7581) (f := num) (v := ((num (p0 + 3 * t + 2)).toNat : Int)) (hrow _) (k := (p0 + (3 * t)) + 2) (by omega) (by omega) (by decide) (by have := hb9 (3 * t + 2) (by omega); rw [show p0 + (3 * t + 2) = p0 + 3 * t + 2 by omega] at this; show num (p0 + 3 * t + 2) = _; omega)) ?_
    refine pe_call rfl (s_invV rfl (gA0 hm (mB_0 _ _ _)) rfl rfl) (c_lay hm (layR (fun j => num (p0 + j)) t (S.u_ap f)) (by have := hb9 (3 * t) (by omega); omega) (by have := hb9 (3 * t + 1) (by omega); show (num (p0 + 3 * t + 1)).toNat < 40; rw [show p0 + 3 * t + 1 = p0 + (3 * t + 1) by omega]; omega) (by have := hb9 (3 * t + 2) (by omega); show (num (p0 + 3 * t + 2)).toNat < 40; rw [show p0 + 3 * t + 2 = p0 + (3 * t + 2) by omega]; omega)) ?_
    refine pe_go (pc := 52) rfl (s_iinc (x := (t : Int)) (y := ((t + 1 : Nat) : Int)) rfl (by omega) (lv' := [(4, .int (iI ((t + 1 : Nat) : Int))), (5, .int (iI ((p0 : Int) + (3 * (t : Int))))), (0, .ref m), (1, .ref a), (2, .int (iI (p0 : Int))), (3, .int (iI (T : Int)))]) rfl) ?_
    refine pe_go (pc := 55) rfl s_goto ?_
    refine pe_few (lv := [(4, .int (iI ((t + 1 : Nat) : Int))), (0, .ref m), (1, .ref a), (2, .int (iI (p0 : Int))), (3, .int (iI (T : Int)))]) rfl rfl (by intro q hq; simp only [List.mem_cons, List.not_mem_nil, or_false] at hq; rcases hq with rfl | rfl | rfl | rfl | rfl <;> rfl) ?_
    exact ih (t + 1) (by omega)
theorem c_layAll {pre post : pW} {m : Nat} (hm : pre.length = m) (S : St) {a : Nat} {num : Nat → Int} (hrow : ∀ T9 : St, (pre ++ (mB m T9 ++ post))[a]? = some (.inl (0, 7581, .inl (fun j => iI (num j))))) {p0 T : Nat} (hb9 : ∀ j : Nat, j < 3 * T → 0 ≤ num (p0 + j) ∧ num (p0 + j) < 40) (hp0 : p0 + 3 * T ≤ 7581) (hT2 : T ≤ 74) (h : S.inB) (hCN : S.okC ∧ S.okN) (hL : S.layL (fun j => num (p0 + j)) T) : qC 3 [.ref m, .ref a, .int (iI (p0 : Int)), .int (iI (T : Int))] (pre ++ (mB m S ++ post)) (layW pre post m S (fun j => num (p0 + j)) T) := by
  refine pc_run (lv := [(0, .ref m), (1, .ref a), (2, .int (iI (p0 : Int))), (3, .int (iI (T : Int)))]) rfl ?_
  refine pe_go (pc := 0) rfl (s_aload_n rfl) ?_
  refine pe_go (pc := 1) rfl (s_getf (v := .ref (m + 8)) (gA0 hm (mB_0 _ _ _)) rfl) ?_
  refine pe_go (pc := 4) rfl (s_iconst (z := -1) rfl) ?_
  refine pe_callE rfl (s_invS rfl rfl rfl) (c_fillAp hm _) ?_
  rintro _ _ ⟨rfl, f1, hf1, rfl⟩
  refine pe_go (pc := 8) rfl (s_iconst (z := 0) rfl) ?_
  refine pe_go (pc := 9) rfl (s_istore (lv' := [(4, .int (iI 0)), (0, .ref m), (1, .ref a), (2, .int (iI (p0 : Int))), (3, .int (iI (T : Int)))]) rfl) ?_
  refine pe_few (lv := [(4, .int (iI ((0 : Nat) : Int))), (0, .ref m), (1, .ref a), (2, .int (iI (p0 : Int))), (3, .int (iI (T : Int)))]) rfl rfl (by intro q hq; simp only [List.mem_cons, List.not_mem_nil, or_false] at hq; rcases hq with rfl | rfl | rfl | rfl | rfl <;> rfl) ?_
  exact l_layAll hm S hrow hb9 hp0 hT2 h hCN hL hf1 T 0 (by omega)
theorem oX_row {pre : pW} {b k : Nat} {c : pCell} (hb : pre.length = b) {X : pW} (h : ∀ T9 : St, (mB (b + 1) T9 ++ X)[k]? = some c) : ∀ T9 : St, ((pre ++ oC (b + 1)) ++ (mB (b + 1) T9 ++ X))[b + 1 + k]? = some c := fun T9 => gA (oC_len hb) (h T9)
theorem c_giveTopP {pre post : pW} {b : Nat} (hb : pre.length = b) (S : St) {pn : Nat → Int} {pb : Nat → Int64} {rn : Nat → Int} {rb : Nat → Int64} {rc : Int} {cl : Nat → Int} {k : Nat} (hk : k ≤ 20) {T : Nat} (hT : pn (361 * k + 138) = (T : Int)) (hT2 : T ≤ 74) (hb9 : ∀ j : Nat, j < 3 * T → 0 ≤ pn (361 * k + 139 + j) ∧ pn (361 * k + 139 + j) < 40) (h : (S.tk k pn pb).inB) (hCN : S.okC ∧ S.okN) (hL : (S.tk k pn pb).layL (fun j => pn (361 * k + 139 + j)) T) : qC 55 [.ref (b + 1 + 34), .ref (b + 1)] ((pre ++ oC (b + 1)) ++ (mB (b + 1) S ++ (oP (b + 1) pn pb (k : Int) rn rb rc cl ++ post))) (layW (pre ++ oC (b + 1)) (oP (b + 1) pn pb (k : Int) rn rb rc cl ++ post) (b + 1) (S.tk k pn pb) (fun j => pn (361 * k + 139 + j)) T) := by
  refine pc_run (lv := [(0, .ref (b + 1 + 34)), (1, .ref (b + 1))]) rfl ?_
  refine pe_go (pc := 0) rfl (s_aload_n rfl) ?_
  refine pe_go (pc := 1) rfl (s_getf (v := .int (iI (k : Int))) (gA (oC_len hb) oX_P) rfl) ?_
  refine pe_go (pc := 4) rfl (s_sipush (z := 361) rfl) ?_
  refine pe_go (pc := 7) rfl s_imul ?_
  rw [show (k : Int) * 361 = ((361 * k : Nat) : Int) by omega]
  refine pe_go (pc := 8) rfl (s_istore_n (lv' := [(2, .int (iI ((361 * k : Nat) : Int))), (0, .ref (b + 1 + 34)), (1, .ref (b + 1))]) rfl) ?_
  refine pe_go (pc := 9) rfl (s_aload_n rfl) ?_
  refine pe_go (pc := 10) rfl (s_getf (v := .ref (b + 1 + 1)) (gA0 (oC_len hb) (mB_0 _ _ _)) rfl) ?_
  refine pe_go (pc := 13) rfl (s_aload_n rfl) ?_
  refine pe_go (pc := 14) rfl (s_getf (v := .ref (b + 1 + 35)) (gA (oC_len hb) oX_P) rfl) ?_
  refine pe_go (pc := 17) rfl (s_iload_n rfl) ?_
  refine pe_go (pc := 18) rfl (s_aload_n rfl) ?_
  refine pe_go (pc := 19) rfl (s_getf (v := .ref (b + 1 + 36)) (gA (oC_len hb) oX_P) rfl) ?_
  refine pe_go (pc := 22) rfl (s_aload_n rfl) ?_
  refine pe_go (pc := 23) rfl (s_getf (v := .int (iI (k : Int))) (gA (oC_len hb) oX_P) rfl) ?_
  refine pe_go (pc := 26) rfl (s_bipush (z := 41) rfl) ?_
  refine pe_go (pc := 28) rfl s_imul ?_
  rw [show (k : Int) * 41 = ((41 * k : Nat) : Int) by omega]
  refine pe_call rfl (s_invV rfl (gA (oC_len hb) (mB_1 _ _ _)) rfl rfl) (c_copyFromP hb S hk) ?_
  refine pe_go (pc := 32) rfl (s_aload_n rfl) ?_
  refine pe_go (pc := 33) rfl (s_aload_n rfl) ?_
  refine pe_go (pc := 34) rfl (s_getf (v := .ref (b + 1 + 35)) (gA (oC_len hb) oX_P) rfl) ?_
  refine pe_go (pc := 37) rfl (s_iload_n rfl) ?_
  refine pe_go (pc := 38) rfl (s_sipush (z := 139) rfl) ?_
  refine pe_go (pc := 41) rfl s_iadd ?_
  rw [show ((361 * k : Nat) : Int) + 139 = ((361 * k + 139 : Nat) : Int) by omega]
  refine pe_go (pc := 42) rfl (s_aload_n rfl) ?_
  refine pe_go (pc := 43) rfl (s_getf (v := .ref (b + 1 + 35)) (gA (oC_len hb) oX_P) rfl) ?_
  refine pe_go (pc := 46) rfl (s_iload_n rfl) ?_
  refine pe_go (pc := 47) rfl (s_sipush (z := 138) rfl) ?_
  refine pe_go (pc := 50) rfl s_iadd ?_
  refine pe_go (pc := 51) rfl (s_iald (n := 7581) (f := pn) (v := (T : Int)) (gA (oC_len hb) oX_pn) (k := (361 * k) + 138) (by omega) (by omega) (by decide) hT) ?_
  refine pe_callE rfl (s_invV rfl (gA0 (oC_len hb) (mB_0 _ _ _)) rfl rfl) (c_layAll (oC_len hb) (S.tk k pn pb) (oX_row hb (fun T9 => oX_pn)) (p0 := 361 * k + 139) (T := T) hb9 (by omega) hT2 h hCN hL) ?_
  rintro _ _ hW1
  have hr1 := hW1
  obtain ⟨f9, li9, g1, g2, rfl, g3⟩ := hW1
  exact pe_ret rfl s_retv hr1
theorem c_giveTopQ {pre post : pW} {b : Nat} (hb : pre.length = b) (S : St) {pn : Nat → Int} {pb : Nat → Int64} {pc : Int} {rn : Nat → Int} {rb : Nat → Int64} {cl : Nat → Int} {k : Nat} (hk : k ≤ 20) {T : Nat} (hT : rn (361 * k + 138) = (T : Int)) (hT2 : T ≤ 74) (hb9 : ∀ j : Nat, j < 3 * T → 0 ≤ rn (361 * k + 139 + j) ∧ rn (361 * k + 139 + j) < 40) (h : (S.tk k rn rb).inB) (hCN : S.okC ∧ S.okN) (hL : (S.tk k rn rb).layL (fun j => rn (361 * k + 139 + j)) T) : qC 55 [.ref (b + 1 + 37), .ref (b + 1)] ((pre ++ oC (b + 1)) ++ (mB (b + 1) S ++ (oP (b + 1) pn pb pc rn rb (k : Int) cl ++ post))) (layW (pre ++ oC (b + 1)) (oP (b + 1) pn pb pc rn rb (k : Int) cl ++ post) (b + 1) (S.tk k rn rb) (fun j => rn (361 * k + 139 + j)) T) := by
  refine pc_run (lv := [(0, .ref (b + 1 + 37)), (1, .ref (b + 1))]) rfl ?_
  refine pe_go (pc := 0) rfl (s_aload_n rfl) ?_
  refine pe_go (pc := 1) rfl (s_getf (v := .int (iI (k : Int))) (gA (oC_len hb) oX_Q) rfl) ?_
  refine pe_go (pc := 4) rfl (s_sipush (z := 361) rfl) ?_
  refine pe_go (pc := 7) rfl s_imul ?_
  rw [show (k : Int) * 361 = ((361 * k : Nat) : Int) by omega]
  refine pe_go (pc := 8) rfl (s_istore_n (lv' := [(2, .int (iI ((361 * k : Nat) : Int))), (0, .ref (b + 1 + 37)), (1, .ref (b + 1))]) rfl) ?_
  refine pe_go (pc := 9) rfl (s_aload_n rfl) ?_
  refine pe_go (pc := 10) rfl (s_getf (v := .ref (b + 1 + 1)) (gA0 (oC_len hb) (mB_0 _ _ _)) rfl) ?_
  refine pe_go (pc := 13) rfl (s_aload_n rfl) ?_
  refine pe_go (pc := 14) rfl (s_getf (v := .ref (b + 1 + 38)) (gA (oC_len hb) oX_Q) rfl) ?_
  refine pe_go (pc := 17) rfl (s_iload_n rfl) ?_
  refine pe_go (pc := 18) rfl (s_aload_n rfl) ?_
  refine pe_go (pc := 19) rfl (s_getf (v := .ref (b + 1 + 39)) (gA (oC_len hb) oX_Q) rfl) ?_
  refine pe_go (pc := 22) rfl (s_aload_n rfl) ?_
  refine pe_go (pc := 23) rfl (s_getf (v := .int (iI (k : Int))) (gA (oC_len hb) oX_Q) rfl) ?_
  refine pe_go (pc := 26) rfl (s_bipush (z := 41) rfl) ?_
  refine pe_go (pc := 28) rfl s_imul ?_
  rw [show (k : Int) * 41 = ((41 * k : Nat) : Int) by omega]
  refine pe_call rfl (s_invV rfl (gA (oC_len hb) (mB_1 _ _ _)) rfl rfl) (c_copyFromQ hb S hk) ?_
  refine pe_go (pc := 32) rfl (s_aload_n rfl) ?_
  refine pe_go (pc := 33) rfl (s_aload_n rfl) ?_
  refine pe_go (pc := 34) rfl (s_getf (v := .ref (b + 1 + 38)) (gA (oC_len hb) oX_Q) rfl) ?_
  refine pe_go (pc := 37) rfl (s_iload_n rfl) ?_
  refine pe_go (pc := 38) rfl (s_sipush (z := 139) rfl) ?_
  refine pe_go (pc := 41) rfl s_iadd ?_
  rw [show ((361 * k : Nat) : Int) + 139 = ((361 * k + 139 : Nat) : Int) by omega]
  refine pe_go (pc := 42) rfl (s_aload_n rfl) ?_
  refine pe_go (pc := 43) rfl (s_getf (v := .ref (b + 1 + 38)) (gA (oC_len hb) oX_Q) rfl) ?_
  refine pe_go (pc := 46) rfl (s_iload_n rfl) ?_
  refine pe_go (pc := 47) rfl (s_sipush (z := 138) rfl) ?_
  refine pe_go (pc := 50) rfl s_iadd ?_
  refine pe_go (pc := 51) rfl (s_iald (n := 7581) (f := rn) (v := (T : Int)) (gA (oC_len hb) oX_rn) (k := (361 * k) + 138) (by omega) (by omega) (by decide) hT) ?_
  refine pe_callE rfl (s_invV rfl (gA0 (oC_len hb) (mB_0 _ _ _)) rfl rfl) (c_layAll (oC_len hb) (S.tk k rn rb) (oX_row hb (fun T9 => oX_rn)) (p0 := 361 * k + 139) (T := T) hb9 (by omega) hT2 h hCN hL) ?_
  rintro _ _ hW1
  have hr1 := hW1
  obtain ⟨f9, li9, g1, g2, rfl, g3⟩ := hW1
  exact pe_ret rfl s_retv hr1
theorem c_pop {pre post : pW} {b : Nat} (hb : pre.length = b) (S : St) {pn : Nat → Int} {pb : Nat → Int64} {rn : Nat → Int} {rb : Nat → Int64} {rc : Int} {cl : Nat → Int} {k : Nat} (hk : k < 20) {T : Nat} (hT : pn (361 * k + 138) = (T : Int)) (hT2 : T ≤ 74) (hb9 : ∀ j : Nat, j < 3 * T → 0 ≤ pn (361 * k + 139 + j) ∧ pn (361 * k + 139 + j) < 40) (h : (S.tk k pn pb).inB) (hCN : S.okC ∧ S.okN) (hL : (S.tk k pn pb).layL (fun j => pn (361 * k + 139 + j)) T) : qC 53 [.ref (b + 1 + 34), .ref (b + 1)] ((pre ++ oC (b + 1)) ++ (mB (b + 1) S ++ (oP (b + 1) pn pb ((k + 1 : Nat) : Int) rn rb rc cl ++ post))) (fun r w' => r = some (.int (bI true)) ∧ layW (pre ++ oC (b + 1)) (oP (b + 1) pn pb (k : Int) rn rb rc cl ++ post) (b + 1) (S.tk k pn pb) (fun j => pn (361 * k + 139 + j)) T none w') := by
  refine pc_run (lv := [(0, .ref (b + 1 + 34)), (1, .ref (b + 1))]) rfl ?_
  refine pe_go (pc := 0) rfl (s_aload_n rfl) ?_
  refine pe_go (pc := 1) rfl (s_getf (v := .int (iI ((k + 1 : Nat) : Int))) (gA (oC_len hb) oX_P) rfl) ?_
  refine pe_go rfl (s_if_gt_t ⟨by omega, by omega⟩ (by omega)) ?_
  refine pe_go (pc := 9) rfl (s_aload_n rfl) ?_
  refine pe_go (pc := 10) rfl (s_dup rfl) ?_
  refine pe_go (pc := 11) rfl (s_getf (v := .int (iI ((k + 1 : Nat) : Int))) (gA (oC_len hb) oX_P) rfl) ?_
  refine pe_go (pc := 14) rfl (s_iconst (z := 1) rfl) ?_
  refine pe_go (pc := 15) rfl s_isub ?_
  rw [show ((k + 1 : Nat) : Int) - 1 = (k : Int) by omega]
  refine pe_go (pc := 16) rfl (s_putf (w' := (pre ++ oC (b + 1)) ++ (mB (b + 1) S ++ (oP (b + 1) pn pb (k : Int) rn rb rc cl ++ post))) (gA (oC_len hb) oX_P) (Nat.le_of_ble_eq_true rfl) rfl (gS (oC_len hb) oX_s_pc)) ?_
  refine pe_go (pc := 19) rfl (s_aload_n rfl) ?_
  refine pe_go (pc := 20) rfl (s_aload_n rfl) ?_
  refine pe_callE rfl (s_invV rfl (gA (oC_len hb) oX_P) rfl rfl) (c_giveTopP hb S (k := k) (by omega) hT hT2 hb9 h hCN hL) ?_
  rintro _ _ hW1
  have hr1 := hW1
  obtain ⟨f9, li9, g1, g2, rfl, g3⟩ := hW1
  refine pe_go (pc := 24) rfl (s_iconst (z := 1) rfl) ?_
  exact pe_ret rfl s_ret1 ⟨rfl, hr1⟩
theorem c_popNo {pre post : pW} {b : Nat} (hb : pre.length = b) (S : St) {pn : Nat → Int} {pb : Nat → Int64} {rn : Nat → Int} {rb : Nat → Int64} {rc : Int} {cl : Nat → Int} : pRun 53 [.ref (b + 1 + 34), .ref (b + 1)] ((pre ++ oC (b + 1)) ++ (mB (b + 1) S ++ (oP (b + 1) pn pb 0 rn rb rc cl ++ post))) (some (.int (bI false))) ((pre ++ oC (b + 1)) ++ (mB (b + 1) S ++ (oP (b + 1) pn pb 0 rn rb rc cl ++ post))) := by
  refine qx_run ?_
  refine pc_run (lv := [(0, .ref (b + 1 + 34)), (1, .ref (b + 1))]) rfl ?_
  refine pe_go (pc := 0) rfl (s_aload_n rfl) ?_
  refine pe_go (pc := 1) rfl (s_getf (v := .int (iI 0)) (gA (oC_len hb) oX_P) rfl) ?_
  refine pe_go rfl (s_if_gt_f ⟨by decide, by decide⟩ (by decide)) ?_
  refine pe_go (pc := 7) rfl (s_iconst (z := 0) rfl) ?_
  exact pe_ret rfl s_ret0 ⟨rfl, rfl⟩
def St.pl1 (S : St) (p : Nat) (x y : Int) : St := ((S.u_xs (uZ S.xs p x)).u_ys (uZ S.ys p y)).u_th (bSet S.th p)
def St.bd1 (S : St) (a b : Nat) : St := S.u_fx (vp_updL (vp_updL S.fx a (bSet (S.fx a) b)) b (bSet (vp_updL S.fx a (bSet (S.fx a) b) b) a))
/-- the mesh at first: the four points told, all else as it was -/
def St.st1 (S : St) : St := (((((S.pl1 0 (-1000) (-1000)).pl1 1 1000 (-1000)).pl1 2 1000 1000).pl1 3 (-1000) 1000).u_g 313)
def St.st2 (S : St) (f : Nat → Int) : St := ((((((S.st1.u_ap f).bd1 0 1).bd1 1 2).bd1 2 3).bd1 3 0).lay 0 1 2).lay 0 2 3
def strW (pre post : pW) (m : Nat) (S : St) (r : Option Value) (w' : pW) : Prop := ∃ f li : Nat → Int, (∀ i : Nat, i < 1600 → f i = -1) ∧ (∀ j : Nat, j < 40 → li j = (S.st2 f).liR j) ∧ listW pre post m ((S.st2 f).u_li li) r w'
theorem c_start {pre post : pW} {m : Nat} (hm : pre.length = m) (S : St) (h : ∀ f : Nat → Int, (∀ i : Nat, i < 1600 → f i = -1) → (S.st2 f).inB ∧ ∀ li : Nat → Int, ((S.st2 f).u_li li).okL) (hCN : S.okC ∧ S.okN) : qC 2 [.ref m] (pre ++ (mB m S ++ post)) (strW pre post m S) := by
  refine pc_run (lv := [(0, .ref m)]) rfl ?_
  refine pe_go (pc := 0) rfl (s_aload_n rfl) ?_
  refine pe_go (pc := 1) rfl (s_getf (v := .ref (m + 1)) (gA0 hm (mB_0 _ _ _)) rfl) ?_
  refine pe_go (pc := 4) rfl (s_iconst (z := 0) rfl) ?_
  refine pe_go (pc := 5) rfl (s_sipush (z := -1000) rfl) ?_
  refine pe_go (pc := 8) rfl (s_sipush (z := -1000) rfl) ?_
  refine pe_call rfl (s_invV rfl (gA hm (mB_1 _ _ _)) rfl rfl) (c_place hm S (by decide) (p := 0)) ?_
  refine pe_go (pc := 14) rfl (s_aload_n rfl) ?_
  refine pe_go (pc := 15) rfl (s_getf (v := .ref (m + 1)) (gA0 hm (mB_0 _ _ _)) rfl) ?_
  refine pe_go (pc := 18) rfl (s_iconst (z := 1) rfl) ?_
  refine pe_go (pc := 19) rfl (s_sipush (z := 1000) rfl) ?_
  refine pe_go (pc := 22) rfl (s_sipush (z := -1000) rfl) ?_
  refine pe_call rfl (s_invV rfl (gA hm (mB_1 _ _ _)) rfl rfl) (c_place hm (S.pl1 0 (-1000) (-1000)) (by decide) (p := 1)) ?_
  refine pe_go (pc := 28) rfl (s_aload_n rfl) ?_
  refine pe_go (pc := 29) rfl (s_getf (v := .ref (m + 1)) (gA0 hm (mB_0 _ _ _)) rfl) ?_
  refine pe_go (pc := 32) rfl (s_iconst (z := 2) rfl) ?_
  refine pe_go (pc := 33) rfl (s_sipush (z := 1000) rfl) ?_
  refine pe_go (pc := 36) rfl (s_sipush (z := 1000) rfl) ?_
  refine pe_call rfl (s_invV rfl (gA hm (mB_1 _ _ _)) rfl rfl) (c_place hm ((S.pl1 0 (-1000) (-1000)).pl1 1 1000 (-1000)) (by decide) (p := 2)) ?_
  refine pe_go (pc := 42) rfl (s_aload_n rfl) ?_
  refine pe_go (pc := 43) rfl (s_getf (v := .ref (m + 1)) (gA0 hm (mB_0 _ _ _)) rfl) ?_
  refine pe_go (pc := 46) rfl (s_iconst (z := 3) rfl) ?_
  refine pe_go (pc := 47) rfl (s_sipush (z := -1000) rfl) ?_
  refine pe_go (pc := 50) rfl (s_sipush (z := 1000) rfl) ?_
  refine pe_call rfl (s_invV rfl (gA hm (mB_1 _ _ _)) rfl rfl) (c_place hm (((S.pl1 0 (-1000) (-1000)).pl1 1 1000 (-1000)).pl1 2 1000 1000) (by decide) (p := 3)) ?_
  refine pe_go (pc := 56) rfl (s_aload_n rfl) ?_
  refine pe_go (pc := 57) rfl (s_getf (v := .ref (m + 1)) (gA0 hm (mB_0 _ _ _)) rfl) ?_
  refine pe_go (pc := 60) rfl (s_sipush (z := 313) rfl) ?_
  refine pe_go (pc := 63) rfl (s_putf (w' := pre ++ (mB m (((((S.pl1 0 (-1000) (-1000)).pl1 1 1000 (-1000)).pl1 2 1000 1000).pl1 3 (-1000) 1000).u_g 313) ++ post)) (gA hm (mB_1 _ _ _)) (Nat.le_of_ble_eq_true rfl) rfl (gS hm (mB_s_g _ _ _ _))) ?_
  refine pe_go (pc := 66) rfl (s_aload_n rfl) ?_
  refine pe_go (pc := 67) rfl (s_getf (v := .ref (m + 8)) (gA0 hm (mB_0 _ _ _)) rfl) ?_
  refine pe_go (pc := 70) rfl (s_iconst (z := -1) rfl) ?_
  refine pe_callE rfl (s_invS rfl rfl rfl) (c_fillAp hm S.st1) ?_
  rintro _ _ ⟨rfl, f1, hf1, rfl⟩
  refine pe_go (pc := 74) rfl (s_iconst (z := 0) rfl) ?_
  refine pe_go (pc := 75) rfl (s_istore_n (lv' := [(1, .int (iI 0)), (0, .ref m)]) rfl) ?_
  refine pe_go (pc := 76) rfl (s_iload_n rfl) ?_
  refine pe_go (pc := 77) rfl (s_iconst (z := 4) rfl) ?_
  refine pe_go rfl (s_icmp_ge_f ⟨by decide, by decide⟩ ⟨by decide, by decide⟩ (by decide)) ?_
  refine pe_go (pc := 81) rfl (s_aload_n rfl) ?_
  refine pe_go (pc := 82) rfl (s_getf (v := .ref (m + 1)) (gA0 hm (mB_0 _ _ _)) rfl) ?_
  refine pe_go (pc := 85) rfl (s_iload_n rfl) ?_
  refine pe_go (pc := 86) rfl (s_iload_n rfl) ?_
  refine pe_go (pc := 87) rfl (s_iconst (z := 1) rfl) ?_
  refine pe_go (q := (89, [(1, .int (iI 0)), (0, .ref m)], [.int (iI 1), .int (iI 0), .ref (m + 1)], pre ++ (mB m (S.st1.u_ap f1) ++ post))) rfl s_iadd ?_
  refine pe_go (pc := 89) rfl (s_iconst (z := 4) rfl) ?_
  refine pe_go (pc := 90) rfl (s_irem ⟨by decide, by decide⟩ ⟨by decide, by decide⟩ (by decide) (by decide) (show Int.tmod 1 4 = 1 by decide)) ?_
  refine pe_call rfl (s_invV rfl (gA hm (mB_1 _ _ _)) rfl rfl) (c_bind hm (S.st1.u_ap f1) (a := 0) (b := 1) (by decide) (by decide)) ?_
  refine pe_go (pc := 94) rfl (s_iinc (x := 0) (y := 1) rfl (by omega) (lv' := [(1, .int (iI 1)), (0, .ref m)]) rfl) ?_
  refine pe_go (pc := 97) rfl s_goto ?_
  refine pe_go (pc := 76) rfl (s_iload_n rfl) ?_
  refine pe_go (pc := 77) rfl (s_iconst (z := 4) rfl) ?_
  refine pe_go rfl (s_icmp_ge_f ⟨by decide, by decide⟩ ⟨by decide, by decide⟩ (by decide)) ?_
  refine pe_go (pc := 81) rfl (s_aload_n rfl) ?_
  refine pe_go (pc := 82) rfl (s_getf (v := .ref (m + 1)) (gA0 hm (mB_0 _ _ _)) rfl) ?_
  refine pe_go (pc := 85) rfl (s_iload_n rfl) ?_
  refine pe_go (pc := 86) rfl (s_iload_n rfl) ?_
  refine pe_go (pc := 87) rfl (s_iconst (z := 1) rfl) ?_
  refine pe_go (q := (89, [(1, .int (iI 1)), (0, .ref m)], [.int (iI 2), .int (iI 1), .ref (m + 1)], pre ++ (mB m ((S.st1.u_ap f1).bd1 0 1) ++ post))) rfl s_iadd ?_
  refine pe_go (pc := 89) rfl (s_iconst (z := 4) rfl) ?_
  refine pe_go (pc := 90) rfl (s_irem ⟨by decide, by decide⟩ ⟨by decide, by decide⟩ (by decide) (by decide) (show Int.tmod 2 4 = 2 by decide)) ?_
  refine pe_call rfl (s_invV rfl (gA hm (mB_1 _ _ _)) rfl rfl) (c_bind hm ((S.st1.u_ap f1).bd1 0 1) (a := 1) (b := 2) (by decide) (by decide)) ?_
  refine pe_go (pc := 94) rfl (s_iinc (x := 1) (y := 2) rfl (by omega) (lv' := [(1, .int (iI 2)), (0, .ref m)]) rfl) ?_
  refine pe_go (pc := 97) rfl s_goto ?_
  refine pe_go (pc := 76) rfl (s_iload_n rfl) ?_
  refine pe_go (pc := 77) rfl (s_iconst (z := 4) rfl) ?_
  refine pe_go rfl (s_icmp_ge_f ⟨by decide, by decide⟩ ⟨by decide, by decide⟩ (by decide)) ?_
  refine pe_go (pc := 81) rfl (s_aload_n rfl) ?_
  refine pe_go (pc := 82) rfl (s_getf (v := .ref (m + 1)) (gA0 hm (mB_0 _ _ _)) rfl) ?_
  refine pe_go (pc := 85) rfl (s_iload_n rfl) ?_
  refine pe_go (pc := 86) rfl (s_iload_n rfl) ?_
  refine pe_go (pc := 87) rfl (s_iconst (z := 1) rfl) ?_
  refine pe_go (q := (89, [(1, .int (iI 2)), (0, .ref m)], [.int (iI 3), .int (iI 2), .ref (m + 1)], pre ++ (mB m (((S.st1.u_ap f1).bd1 0 1).bd1 1 2) ++ post))) rfl s_iadd ?_
  refine pe_go (pc := 89) rfl (s_iconst (z := 4) rfl) ?_
  refine pe_go (pc := 90) rfl (s_irem ⟨by decide, by decide⟩ ⟨by decide, by decide⟩ (by decide) (by decide) (show Int.tmod 3 4 = 3 by decide)) ?_
  refine pe_call rfl (s_invV rfl (gA hm (mB_1 _ _ _)) rfl rfl) (c_bind hm (((S.st1.u_ap f1).bd1 0 1).bd1 1 2) (a := 2) (b := 3) (by decide) (by decide)) ?_
  refine pe_go (pc := 94) rfl (s_iinc (x := 2) (y := 3) rfl (by omega) (lv' := [(1, .int (iI 3)), (0, .ref m)]) rfl) ?_
  refine pe_go (pc := 97) rfl s_goto ?_
  refine pe_go (pc := 76) rfl (s_iload_n rfl) ?_
  refine pe_go (pc := 77) rfl (s_iconst (z := 4) rfl) ?_
  refine pe_go rfl (s_icmp_ge_f ⟨by decide, by decide⟩ ⟨by decide, by decide⟩ (by decide)) ?_
  refine pe_go (pc := 81) rfl (s_aload_n rfl) ?_
  refine pe_go (pc := 82) rfl (s_getf (v := .ref (m + 1)) (gA0 hm (mB_0 _ _ _)) rfl) ?_
  refine pe_go (pc := 85) rfl (s_iload_n rfl) ?_
  refine pe_go (pc := 86) rfl (s_iload_n rfl) ?_
  refine pe_go (pc := 87) rfl (s_iconst (z := 1) rfl) ?_
  refine pe_go (q := (89, [(1, .int (iI 3)), (0, .ref m)], [.int (iI 4), .int (iI 3), .ref (m + 1)], pre ++ (mB m ((((S.st1.u_ap f1).bd1 0 1).bd1 1 2).bd1 2 3) ++ post))) rfl s_iadd ?_
  refine pe_go (pc := 89) rfl (s_iconst (z := 4) rfl) ?_
  refine pe_go (pc := 90) rfl (s_irem ⟨by decide, by decide⟩ ⟨by decide, by decide⟩ (by decide) (by decide) (show Int.tmod 4 4 = 0 by decide)) ?_
  refine pe_call rfl (s_invV rfl (gA hm (mB_1 _ _ _)) rfl rfl) (c_bind hm ((((S.st1.u_ap f1).bd1 0 1).bd1 1 2).bd1 2 3) (a := 3) (b := 0) (by decide) (by decide)) ?_
  refine pe_go (pc := 94) rfl (s_iinc (x := 3) (y := 4) rfl (by omega) (lv' := [(1, .int (iI 4)), (0, .ref m)]) rfl) ?_
  refine pe_go (pc := 97) rfl s_goto ?_
  refine pe_go (pc := 76) rfl (s_iload_n rfl) ?_
  refine pe_go (pc := 77) rfl (s_iconst (z := 4) rfl) ?_
  refine pe_go rfl (s_icmp_ge_t ⟨by decide, by decide⟩ ⟨by decide, by decide⟩ (by decide)) ?_
  refine pe_go (pc := 100) rfl (s_aload_n rfl) ?_
  refine pe_go (pc := 101) rfl (s_iconst (z := 0) rfl) ?_
  refine pe_go (pc := 102) rfl (s_iconst (z := 1) rfl) ?_
  refine pe_go (pc := 103) rfl (s_iconst (z := 2) rfl) ?_
  refine pe_call rfl (s_invV rfl (gA0 hm (mB_0 _ _ _)) rfl rfl) (c_lay hm (((((S.st1.u_ap f1).bd1 0 1).bd1 1 2).bd1 2 3).bd1 3 0) (a := 0) (b := 1) (c := 2) (by decide) (by decide) (by decide)) ?_
  refine pe_go (pc := 107) rfl (s_aload_n rfl) ?_
  refine pe_go (pc := 108) rfl (s_iconst (z := 0) rfl) ?_
  refine pe_go (pc := 109) rfl (s_iconst (z := 2) rfl) ?_
  refine pe_go (pc := 110) rfl (s_iconst (z := 3) rfl) ?_
  refine pe_call rfl (s_invV rfl (gA0 hm (mB_0 _ _ _)) rfl rfl) (c_lay hm ((((((S.st1.u_ap f1).bd1 0 1).bd1 1 2).bd1 2 3).bd1 3 0).lay 0 1 2) (a := 0) (b := 2) (c := 3) (by decide) (by decide) (by decide)) ?_
  refine pe_go (pc := 114) rfl (s_aload_n rfl) ?_
  refine pe_callE rfl (s_invV rfl (gA0 hm (mB_0 _ _ _)) rfl rfl) (c_liftRound hm (S.st2 f1) (h f1 hf1).1) ?_
  rintro _ _ ⟨rfl, li2, hli2, rfl⟩
  refine pe_go (pc := 118) rfl (s_aload_n rfl) ?_
  refine pe_callE rfl (s_invV rfl (gA0 hm (mB_0 _ _ _)) rfl rfl) (c_listV hm ((S.st2 f1).u_li li2) ((h f1 hf1).2 li2) hCN) ?_
  rintro _ _ hW3
  have hr := hW3
  obtain ⟨rfl, -⟩ := hW3
  exact pe_ret rfl s_retv ⟨f1, li2, hf1, hli2, hr⟩
