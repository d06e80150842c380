/-! THE CLASS: rows filled; the rows of triangles and edges, all of them. Rows laid by program (wip/p63/wk.py, mk34.py). -/
theorem l_fillNe {pre post : pW} {m : Nat} (hm : pre.length = m) (S : St) : ∀ (n p : Nat) (f : Nat → Int64), p + n = 40 → (∀ i : Nat, i < p → f i = lI 0) → qE 143 (6, [(3, .int (iI (p : Int))), (4, .int (iI 40)), (0, .ref (m + 12)), (1, .long (lI 0))], [], pre ++ (mB m (S.u_ne f) ++ post)) (fun r' w' => r' = none ∧ ∃ f : Nat → Int64, (∀ i : Nat, i < 40 → f i = lI 0) ∧ w' = pre ++ (mB m (S.u_ne f) ++ post)) := by
  intro n
  induction n with
  | zero =>
    intro p f hp hf
    refine pe_go (pc := 6) rfl (s_iload_n rfl) ?_
    refine pe_go (pc := 7) rfl (s_iload rfl) ?_
    refine pe_go rfl (s_icmp_ge_t ⟨by omega, by omega⟩ ⟨by decide, by decide⟩ (by omega)) ?_
    exact pe_ret rfl s_retv ⟨rfl, f, fun i hi => hf i (by omega), rfl⟩
  | succ n ih =>
    intro p f hp hf
    refine pe_go (pc := 6) rfl (s_iload_n rfl) ?_
    refine pe_go (pc := 7) rfl (s_iload rfl) ?_
    refine pe_go rfl (s_icmp_ge_f ⟨by omega, by omega⟩ ⟨by decide, by decide⟩ (by omega)) ?_
    refine pe_go (pc := 12) rfl (s_aload_n rfl) ?_
    refine pe_go (pc := 13) rfl (s_iload_n rfl) ?_
    refine pe_go (pc := 14) rfl (s_lload_n rfl) ?_
    refine pe_go (pc := 15) rfl (s_last (n := 40) (f := f) (w' := pre ++ (mB m (S.u_ne (vp_updL f p 0)) ++ post)) (gA hm (mB_ne _ _ _)) (k := p) (by omega) (by omega) (by decide) (gS hm (mB_s_ne _ _ _ _))) ?_
    refine pe_go (pc := 16) rfl (s_iinc (x := (p : Int)) (y := ((p + 1 : Nat) : Int)) rfl (by omega) (lv' := [(3, .int (iI ((p + 1 : Nat) : Int))), (4, .int (iI 40)), (0, .ref (m + 12)), (1, .long (lI 0))]) rfl) ?_
    refine pe_go (pc := 19) rfl s_goto ?_
    refine ih (p + 1) (vp_updL f p 0) (by omega) (fun i hi => ?_)
    by_cases e9 : i = p
    · subst e9
      exact if_pos rfl
    · show (if i = p then _ else f i) = _
      rw [if_neg e9]
      exact hf i (by omega)
theorem c_fillNe {pre post : pW} {m : Nat} (hm : pre.length = m) (S : St) : qC 143 [.ref (m + 12), .long (lI 0)] (pre ++ (mB m S ++ post)) (fun r' w' => r' = none ∧ ∃ f : Nat → Int64, (∀ i : Nat, i < 40 → f i = lI 0) ∧ w' = pre ++ (mB m (S.u_ne f) ++ post)) := by
  refine pc_run (lv := [(0, .ref (m + 12)), (1, .long (lI 0))]) rfl ?_
  refine pe_go (pc := 0) rfl (s_iconst (z := 0) rfl) ?_
  refine pe_go (pc := 1) rfl (s_istore_n (lv' := [(3, .int (iI 0)), (0, .ref (m + 12)), (1, .long (lI 0))]) rfl) ?_
  refine pe_go (pc := 2) rfl (s_aload_n rfl) ?_
  refine pe_go (pc := 3) rfl (s_alen (n := 40) (gA hm (mB_ne _ _ _)) rfl rfl) ?_
  refine pe_go (pc := 4) rfl (s_istore (lv' := [(4, .int (iI 40)), (3, .int (iI 0)), (0, .ref (m + 12)), (1, .long (lI 0))]) rfl) ?_
  refine pe_few (lv := [(3, .int (iI ((0 : Nat) : Int))), (4, .int (iI 40)), (0, .ref (m + 12)), (1, .long (lI 0))]) rfl rfl (by intro q hq; simp only [List.mem_cons, List.not_mem_nil, or_false] at hq; rcases hq with rfl | rfl | rfl | rfl <;> rfl) ?_
  exact l_fillNe hm S 40 0 S.ne rfl (fun i hi => by omega)
theorem l_fillAp {pre post : pW} {m : Nat} (hm : pre.length = m) (S : St) : ∀ (n p : Nat) (f : Nat → Int), p + n = 1600 → (∀ i : Nat, i < p → f i = -1) → qE 144 (5, [(2, .int (iI (p : Int))), (3, .int (iI 1600)), (0, .ref (m + 8)), (1, .int (iI (-1)))], [], pre ++ (mB m (S.u_ap f) ++ post)) (fun r' w' => r' = none ∧ ∃ f : Nat → Int, (∀ i : Nat, i < 1600 → f i = -1) ∧ w' = pre ++ (mB m (S.u_ap f) ++ post)) := by
  intro n
  induction n with
  | zero =>
    intro p f hp hf
    refine pe_go (pc := 5) rfl (s_iload_n rfl) ?_
    refine pe_go (pc := 6) rfl (s_iload_n rfl) ?_
    refine pe_go rfl (s_icmp_ge_t ⟨by omega, by omega⟩ ⟨by decide, by decide⟩ (by omega)) ?_
    exact pe_ret rfl s_retv ⟨rfl, f, fun i hi => hf i (by omega), rfl⟩
  | succ n ih =>
    intro p f hp hf
    refine pe_go (pc := 5) rfl (s_iload_n rfl) ?_
    refine pe_go (pc := 6) rfl (s_iload_n rfl) ?_
    refine pe_go rfl (s_icmp_ge_f ⟨by omega, by omega⟩ ⟨by decide, by decide⟩ (by omega)) ?_
    refine pe_go (pc := 10) rfl (s_aload_n rfl) ?_
    refine pe_go (pc := 11) rfl (s_iload_n rfl) ?_
    refine pe_go (pc := 12) rfl (s_iload_n rfl) ?_
    refine pe_go (pc := 13) rfl (s_iast (n := 1600) (f := f) (w' := pre ++ (mB m (S.u_ap (uZ f p (-1))) ++ post)) (gA hm (mB_ap _ _ _)) (k := p) (by omega) (by omega) (by decide) (gS hm (mB_s_ap _ _ _ _))) ?_
    refine pe_go (pc := 14) rfl (s_iinc (x := (p : Int)) (y := ((p + 1 : Nat) : Int)) rfl (by omega) (lv' := [(2, .int (iI ((p + 1 : Nat) : Int))), (3, .int (iI 1600)), (0, .ref (m + 8)), (1, .int (iI (-1)))]) rfl) ?_
    refine pe_go (pc := 17) rfl s_goto ?_
    refine ih (p + 1) (uZ f p (-1)) (by omega) (fun i hi => ?_)
    by_cases e9 : i = p
    · subst e9
      exact if_pos rfl
    · show (if i = p then _ else f i) = _
      rw [if_neg e9]
      exact hf i (by omega)
theorem c_fillAp {pre post : pW} {m : Nat} (hm : pre.length = m) (S : St) : qC 144 [.ref (m + 8), .int (iI (-1))] (pre ++ (mB m S ++ post)) (fun r' w' => r' = none ∧ ∃ f : Nat → Int, (∀ i : Nat, i < 1600 → f i = -1) ∧ w' = pre ++ (mB m (S.u_ap f) ++ post)) := by
  refine pc_run (lv := [(0, .ref (m + 8)), (1, .int (iI (-1)))]) rfl ?_
  refine pe_go (pc := 0) rfl (s_iconst (z := 0) rfl) ?_
  refine pe_go (pc := 1) rfl (s_istore_n (lv' := [(2, .int (iI 0)), (0, .ref (m + 8)), (1, .int (iI (-1)))]) rfl) ?_
  refine pe_go (pc := 2) rfl (s_aload_n rfl) ?_
  refine pe_go (pc := 3) rfl (s_alen (n := 1600) (gA hm (mB_ap _ _ _)) rfl rfl) ?_
  refine pe_go (pc := 4) rfl (s_istore_n (lv' := [(3, .int (iI 1600)), (2, .int (iI 0)), (0, .ref (m + 8)), (1, .int (iI (-1)))]) rfl) ?_
  refine pe_few (lv := [(2, .int (iI ((0 : Nat) : Int))), (3, .int (iI 1600)), (0, .ref (m + 8)), (1, .int (iI (-1)))]) rfl rfl (by intro q hq; simp only [List.mem_cons, List.not_mem_nil, or_false] at hq; rcases hq with rfl | rfl | rfl | rfl <;> rfl) ?_
  exact l_fillAp hm S 1600 0 S.ap rfl (fun i hi => by omega)
def St.ul (S : St) (ow co en : Nat → Int) (ne : Nat → Int64) (tn ec : Int) : St := sM S.xs S.ys S.hs S.fx S.hx S.hy S.th S.hn S.g S.ap ow co en ne S.rd tn ec S.li S.wa S.qu S.qn
theorem St.ul_xs (S : St) (ow co en : Nat → Int) (ne : Nat → Int64) (tn ec : Int) : (S.ul ow co en ne tn ec).xs = S.xs := sM_xs
theorem St.ul_ys (S : St) (ow co en : Nat → Int) (ne : Nat → Int64) (tn ec : Int) : (S.ul ow co en ne tn ec).ys = S.ys := sM_ys
theorem St.ul_hs (S : St) (ow co en : Nat → Int) (ne : Nat → Int64) (tn ec : Int) : (S.ul ow co en ne tn ec).hs = S.hs := sM_hs
theorem St.ul_fx (S : St) (ow co en : Nat → Int) (ne : Nat → Int64) (tn ec : Int) : (S.ul ow co en ne tn ec).fx = S.fx := sM_fx
theorem St.ul_hx (S : St) (ow co en : Nat → Int) (ne : Nat → Int64) (tn ec : Int) : (S.ul ow co en ne tn ec).hx = S.hx := sM_hx
theorem St.ul_hy (S : St) (ow co en : Nat → Int) (ne : Nat → Int64) (tn ec : Int) : (S.ul ow co en ne tn ec).hy = S.hy := sM_hy
theorem St.ul_th (S : St) (ow co en : Nat → Int) (ne : Nat → Int64) (tn ec : Int) : (S.ul ow co en ne tn ec).th = S.th := sM_th
theorem St.ul_hn (S : St) (ow co en : Nat → Int) (ne : Nat → Int64) (tn ec : Int) : (S.ul ow co en ne tn ec).hn = S.hn := sM_hn
theorem St.ul_g (S : St) (ow co en : Nat → Int) (ne : Nat → Int64) (tn ec : Int) : (S.ul ow co en ne tn ec).g = S.g := sM_g
theorem St.ul_ap (S : St) (ow co en : Nat → Int) (ne : Nat → Int64) (tn ec : Int) : (S.ul ow co en ne tn ec).ap = S.ap := sM_ap
theorem St.ul_ow (S : St) (ow co en : Nat → Int) (ne : Nat → Int64) (tn ec : Int) : (S.ul ow co en ne tn ec).ow = ow := sM_ow
theorem St.ul_co (S : St) (ow co en : Nat → Int) (ne : Nat → Int64) (tn ec : Int) : (S.ul ow co en ne tn ec).co = co := sM_co
theorem St.ul_en (S : St) (ow co en : Nat → Int) (ne : Nat → Int64) (tn ec : Int) : (S.ul ow co en ne tn ec).en = en := sM_en
theorem St.ul_ne (S : St) (ow co en : Nat → Int) (ne : Nat → Int64) (tn ec : Int) : (S.ul ow co en ne tn ec).ne = ne := sM_ne
theorem St.ul_rd (S : St) (ow co en : Nat → Int) (ne : Nat → Int64) (tn ec : Int) : (S.ul ow co en ne tn ec).rd = S.rd := sM_rd
theorem St.ul_tn (S : St) (ow co en : Nat → Int) (ne : Nat → Int64) (tn ec : Int) : (S.ul ow co en ne tn ec).tn = tn := sM_tn
theorem St.ul_ec (S : St) (ow co en : Nat → Int) (ne : Nat → Int64) (tn ec : Int) : (S.ul ow co en ne tn ec).ec = ec := sM_ec
theorem St.ul_li (S : St) (ow co en : Nat → Int) (ne : Nat → Int64) (tn ec : Int) : (S.ul ow co en ne tn ec).li = S.li := sM_li
theorem St.ul_wa (S : St) (ow co en : Nat → Int) (ne : Nat → Int64) (tn ec : Int) : (S.ul ow co en ne tn ec).wa = S.wa := sM_wa
theorem St.ul_qu (S : St) (ow co en : Nat → Int) (ne : Nat → Int64) (tn ec : Int) : (S.ul ow co en ne tn ec).qu = S.qu := sM_qu
theorem St.ul_qn (S : St) (ow co en : Nat → Int) (ne : Nat → Int64) (tn ec : Int) : (S.ul ow co en ne tn ec).qn = S.qn := sM_qn
theorem St.ul_addE (S : St) (ow co en : Nat → Int) (ne : Nat → Int64) (tn ec : Int) (a b t : Nat) : (S.ul ow co en ne tn ec).addE a b t = S.ul ow co (uZ (uZ en (2 * t) a) (2 * t + 1) b) (vp_updL (vp_updL ne a (bSet (ne a) b)) b (bSet (vp_updL ne a (bSet (ne a) b) b) a)) tn (ec + 1) := by
  simp only [St.addE, St.ul, sM_xs, sM_ys, sM_hs, sM_fx, sM_hx, sM_hy, sM_th, sM_hn, sM_g, sM_ap, sM_ow, sM_co, sM_en, sM_ne, sM_rd, sM_tn, sM_ec, sM_li, sM_wa, sM_qu, sM_qn]
theorem St.ul_addT (S : St) (ow co en : Nat → Int) (ne : Nat → Int64) (tn ec : Int) (a b c t : Nat) : (S.ul ow co en ne tn ec).addT a b c t = S.ul (ap3 ow a b c tn tn tn) (uZ (uZ (uZ co (3 * t) a) (3 * t + 1) b) (3 * t + 2) c) en ne (tn + 1) ec := by
  simp only [St.addT, St.ul, sM_xs, sM_ys, sM_hs, sM_fx, sM_hx, sM_hy, sM_th, sM_hn, sM_g, sM_ap, sM_ow, sM_co, sM_en, sM_ne, sM_rd, sM_tn, sM_ec, sM_li, sM_wa, sM_qu, sM_qn]
def listW (pre post : pW) (m : Nat) (S : St) (r : Option Value) (w' : pW) : Prop := r = none ∧ ∃ ow co en ne tn ec, (S.ul ow co en ne tn ec).lstE 1600 ∧ (S.ul ow co en ne tn ec).lstT 1600 ∧ w' = pre ++ (mB m (S.ul ow co en ne tn ec) ++ post)
/-- what the mesh must be for its rows to be made -/
def St.okL (S : St) : Prop := S.okA ∧ S.cyc ∧ (S.tl 1600).length ≤ 74 ∧ (S.el 1600).length ≤ 113
theorem St.isTri_code {S : St} {a b : Nat} (hb : b < 40) : S.isTri (a * 40 + b) ↔ a < b ∧ S.has a ∧ (a : Int) < S.ap (a * 40 + b) := by
  unfold St.isTri
  rw [show (a * 40 + b) / 40 = a by omega, show (a * 40 + b) % 40 = b by omega]
theorem St.isEdg_code {S : St} {a b : Nat} (hb : b < 40) : S.isEdg (a * 40 + b) ↔ a < b ∧ S.has a ∧ (S.ap (a * 40 + b) ≠ -1 ∨ S.ap (b * 40 + a) ≠ -1) := by
  unfold St.isEdg
  rw [show (a * 40 + b) / 40 = a by omega, show (a * 40 + b) % 40 = b by omega]
theorem l_list_in {pre post : pW} {m : Nat} (hm : pre.length = m) (S : St) (hL : S.okL) {a : Nat} (ha : a < 40) (K : ∀ (ow co en : Nat → Int) (ne : Nat → Int64) (tn ec : Int), (S.ul ow co en ne tn ec).lstE ((a + 1) * 40) → (S.ul ow co en ne tn ec).lstT ((a + 1) * 40) → qE 26 (20, [(1, .int (iI ((a + 1 : Nat) : Int))), (0, .ref m)], [], pre ++ (mB m (S.ul ow co en ne tn ec) ++ post)) (listW pre post m S)) : ∀ (n b : Nat) (ow co en : Nat → Int) (ne : Nat → Int64) (tn ec : Int), b + n = 40 → a < b → (S.ul ow co en ne tn ec).lstE (a * 40 + b) → (S.ul ow co en ne tn ec).lstT (a * 40 + b) → qE 26 (30, [(2, .int (iI (b : Int))), (0, .ref m), (1, .int (iI (a : Int)))], [], pre ++ (mB m (S.ul ow co en ne tn ec) ++ post)) (listW pre post m S) := by
  intro n
  induction n with
  | zero =>
    intro b ow co en ne tn ec hp hab hE hT
    refine pe_go (pc := 30) rfl (s_iload_n rfl) ?_
    refine pe_go (pc := 31) rfl (s_bipush (z := 40) rfl) ?_
    refine pe_go rfl (s_icmp_ge_t ⟨by omega, by omega⟩ ⟨by decide, by decide⟩ (by omega)) ?_
    refine pe_go (pc := 103) rfl (s_iinc (x := (a : Int)) (y := ((a + 1 : Nat) : Int)) rfl (by omega) (lv' := [(1, .int (iI ((a + 1 : Nat) : Int))), (2, .int (iI (b : Int))), (0, .ref m)]) rfl) ?_
    refine pe_go (pc := 106) rfl s_goto ?_
    refine pe_few (lv := [(1, .int (iI ((a + 1 : Nat) : Int))), (0, .ref m)]) rfl rfl (by intro q hq; simp at hq; rcases hq with rfl | rfl <;> rfl) ?_
    exact K ow co en ne tn ec (by rw [show (a + 1) * 40 = a * 40 + b by omega]; exact hE) (by rw [show (a + 1) * 40 = a * 40 + b by omega]; exact hT)
  | succ n ih =>
    intro b ow co en ne tn ec hp hab hE hT
    have hb : b < 40 := by omega
    have hA := hL.1
    have hcy := hL.2.1
    have a1 := hA (a * 40 + b) (by omega)
    have a2 := hA (b * 40 + a) (by omega)
    refine pe_go (pc := 30) rfl (s_iload_n rfl) ?_
    refine pe_go (pc := 31) rfl (s_bipush (z := 40) rfl) ?_
    refine pe_go rfl (s_icmp_ge_f ⟨by omega, by omega⟩ ⟨by decide, by decide⟩ (by omega)) ?_
    refine pe_go (pc := 36) rfl (s_aload_n rfl) ?_
    refine pe_go (pc := 37) rfl (s_getf (v := .ref (m + 1)) (gA0 hm (mB_0 _ _ _)) rfl) ?_
    refine pe_go (pc := 40) rfl (s_iload_n rfl) ?_
    refine pe_call rfl (s_invV rfl (gA hm (mB_1 _ _ _)) rfl rfl) (c_has hm _ ha) ?_
    by_cases b1 : S.has a
    · skip
      refine pe_go rfl (s_ifeq_true (decide_eq_true b1)) ?_
      refine pe_go (pc := 47) rfl (s_aload_n rfl) ?_
      refine pe_go (pc := 48) rfl (s_getf (v := .ref (m + 8)) (gA0 hm (mB_0 _ _ _)) rfl) ?_
      refine pe_go (pc := 51) rfl (s_iload_n rfl) ?_
      refine pe_go (pc := 52) rfl (s_bipush (z := 40) rfl) ?_
      refine pe_go (pc := 54) rfl s_imul ?_
      refine pe_go (pc := 55) rfl (s_iload_n rfl) ?_
      refine pe_go (pc := 56) rfl s_iadd ?_
      refine pe_go (pc := 57) rfl (s_iald (n := 1600) (f := (S.ul ow co en ne tn ec).ap) (v := S.ap (a * 40 + b)) (gA hm (mB_ap _ _ _)) (k := (a * 40) + b) (by omega) (by omega) (by decide) rfl) ?_
      refine pe_go (pc := 58) rfl (s_istore_n (lv' := [(3, .int (iI (S.ap (a * 40 + b)))), (2, .int (iI (b : Int))), (0, .ref m), (1, .int (iI (a : Int)))]) rfl) ?_
      refine pe_go (pc := 59) rfl (s_iload_n rfl) ?_
      refine pe_go (pc := 60) rfl (s_iconst (z := -1) rfl) ?_
      by_cases c2 : (S.ap (a * 40 + b)) = (-1)
      · skip
        refine pe_go rfl (s_icmp_ne_f ⟨by omega, by omega⟩ ⟨by decide, by decide⟩ (fun e => e c2)) ?_
        refine pe_go (pc := 64) rfl (s_aload_n rfl) ?_
        refine pe_go (pc := 65) rfl (s_getf (v := .ref (m + 8)) (gA0 hm (mB_0 _ _ _)) rfl) ?_
        refine pe_go (pc := 68) rfl (s_iload_n rfl) ?_
        refine pe_go (pc := 69) rfl (s_bipush (z := 40) rfl) ?_
        refine pe_go (pc := 71) rfl s_imul ?_
        refine pe_go (pc := 72) rfl (s_iload_n rfl) ?_
        refine pe_go (pc := 73) rfl s_iadd ?_
        refine pe_go (pc := 74) rfl (s_iald (n := 1600) (f := (S.ul ow co en ne tn ec).ap) (v := S.ap (b * 40 + a)) (gA hm (mB_ap _ _ _)) (k := (b * 40) + a) (by omega) (by omega) (by decide) rfl) ?_
        refine pe_go (pc := 75) rfl (s_iconst (z := -1) rfl) ?_
        by_cases c3 : (S.ap (b * 40 + a)) = (-1)
        · skip
          refine pe_go rfl (s_icmp_eq_t ⟨by omega, by omega⟩ ⟨by decide, by decide⟩ c3) ?_
          refine pe_go (pc := 85) rfl (s_iload_n rfl) ?_
          refine pe_go (pc := 86) rfl (s_iload_n rfl) ?_
          by_cases c4 : (S.ap (a * 40 + b)) ≤ (a : Int)
          · skip
            refine pe_go rfl (s_icmp_le_t ⟨by omega, by omega⟩ ⟨by omega, by omega⟩ c4) ?_
            refine pe_go (pc := 97) rfl (s_iinc (x := (b : Int)) (y := ((b + 1 : Nat) : Int)) rfl (by omega) (lv' := [(2, .int (iI ((b + 1 : Nat) : Int))), (3, .int (iI (S.ap (a * 40 + b)))), (0, .ref m), (1, .int (iI (a : Int)))]) rfl) ?_
            refine pe_go (pc := 100) rfl s_goto ?_
            refine pe_few (lv := [(2, .int (iI ((b + 1 : Nat) : Int))), (0, .ref m), (1, .int (iI (a : Int)))]) rfl rfl (by intro q hq; simp at hq; rcases hq with rfl | rfl | rfl <;> rfl) ?_
            have hne : ¬ S.isEdg (a * 40 + b) := fun z => by
              have z2 := ((St.isEdg_code hb).mp z).2.2
              omega
            have hnt : ¬ S.isTri (a * 40 + b) := fun z => by
              have z2 := ((St.isTri_code hb).mp z).2.2
              omega
            exact ih (b + 1) _ _ _ _ _ _ (by omega) (by omega) (St.lstE_no (S := S.ul ow co en ne tn ec) hE hne) (St.lstT_no (S := S.ul ow co en ne tn ec) hT hnt)
          · skip
            refine pe_go rfl (s_icmp_le_f ⟨by omega, by omega⟩ ⟨by omega, by omega⟩ c4) ?_
            refine pe_go (pc := 90) rfl (s_aload_n rfl) ?_
            refine pe_go (pc := 91) rfl (s_iload_n rfl) ?_
            refine pe_go (pc := 92) rfl (s_iload_n rfl) ?_
            refine pe_go (pc := 93) rfl (s_iload_n rfl) ?_
            obtain ⟨c9, hc9⟩ := Int.eq_ofNat_of_zero_le (show 0 ≤ S.ap (a * 40 + b) by omega)
            have hc9b : c9 < 40 := by omega
            obtain ⟨u, hu⟩ : ∃ u : Nat, tn = (u : Int) := ⟨_, hT.1.1⟩
            have hti : S.isTri (a * 40 + b) := (St.isTri_code hb).mpr ⟨hab, by assumption, by omega⟩
            have h7u : u < 74 := by
              have h8 := hL.2.2.1
              have h9 := St.tl_len S (show a * 40 + b + 1 ≤ 1600 by omega)
              rw [St.tl_yes hti] at h9
              have h6 : tn = ((S.tl (a * 40 + b)).length : Int) := hT.1.1
              simp at h9
              omega
            have hT2 : (((S.ul ow co en ne tn ec)).addT a b c9 u).lstT (a * 40 + b + 1) := St.lstT_add (S := (S.ul ow co en ne tn ec)) ha hb hc9b hab (by omega) hA hcy hT hc9 (by assumption) hu
            refine pe_call rfl (s_invV rfl (gA0 hm (mB_0 _ _ _)) rfl rfl) ((show pRun 28 [.ref m, .int (iI (a : Int)), .int (iI (b : Int)), .int (iI (S.ap (a * 40 + b)))] _ _ _ from by rw [hc9]; exact c_listTri hm (S.ul ow co en ne tn ec) ha hb hc9b hu h7u)) ?_
            refine pe_go (pc := 97) rfl (s_iinc (x := (b : Int)) (y := ((b + 1 : Nat) : Int)) rfl (by omega) (lv' := [(2, .int (iI ((b + 1 : Nat) : Int))), (3, .int (iI (S.ap (a * 40 + b)))), (0, .ref m), (1, .int (iI (a : Int)))]) rfl) ?_
            refine pe_go (pc := 100) rfl s_goto ?_
            refine pe_few (lv := [(2, .int (iI ((b + 1 : Nat) : Int))), (0, .ref m), (1, .int (iI (a : Int)))]) rfl rfl (by intro q hq; simp at hq; rcases hq with rfl | rfl | rfl <;> rfl) ?_
            have hne : ¬ S.isEdg (a * 40 + b) := fun z => by
              have z2 := ((St.isEdg_code hb).mp z).2.2
              omega
            simp only [St.ul_addE, St.ul_addT] at *
            exact ih (b + 1) _ _ _ _ _ _ (by omega) (by omega) (St.lstE_no (S := S.ul ow co en ne tn ec) hE hne) hT2
        · skip
          refine pe_go rfl (s_icmp_eq_f ⟨by omega, by omega⟩ ⟨by decide, by decide⟩ c3) ?_
          refine pe_go (pc := 79) rfl (s_aload_n rfl) ?_
          refine pe_go (pc := 80) rfl (s_iload_n rfl) ?_
          refine pe_go (pc := 81) rfl (s_iload_n rfl) ?_
          obtain ⟨t, ht⟩ : ∃ t : Nat, ec = (t : Int) := ⟨_, hE.1.1⟩
          have he : S.isEdg (a * 40 + b) := (St.isEdg_code hb).mpr ⟨hab, by assumption, by first | exact Or.inl (by assumption) | exact Or.inr (by assumption)⟩
          have h7 : t < 113 := by
            have h8 := hL.2.2.2
            have h9 := St.el_len S (show a * 40 + b + 1 ≤ 1600 by omega)
            rw [St.el_yes he] at h9
            have h6 : ec = ((S.el (a * 40 + b)).length : Int) := hE.1.1
            simp at h9
            omega
          have hE2 := St.lstE_add ha hb hab hE he ht
          refine pe_call rfl (s_invV rfl (gA0 hm (mB_0 _ _ _)) rfl rfl) (c_listEdge hm (S.ul ow co en ne tn ec) ha hb ht h7) ?_
          refine pe_go (pc := 85) rfl (s_iload_n rfl) ?_
          refine pe_go (pc := 86) rfl (s_iload_n rfl) ?_
          by_cases c5 : (S.ap (a * 40 + b)) ≤ (a : Int)
          · skip
            refine pe_go rfl (s_icmp_le_t ⟨by omega, by omega⟩ ⟨by omega, by omega⟩ c5) ?_
            refine pe_go (pc := 97) rfl (s_iinc (x := (b : Int)) (y := ((b + 1 : Nat) : Int)) rfl (by omega) (lv' := [(2, .int (iI ((b + 1 : Nat) : Int))), (3, .int (iI (S.ap (a * 40 + b)))), (0, .ref m), (1, .int (iI (a : Int)))]) rfl) ?_
            refine pe_go (pc := 100) rfl s_goto ?_
            refine pe_few (lv := [(2, .int (iI ((b + 1 : Nat) : Int))), (0, .ref m), (1, .int (iI (a : Int)))]) rfl rfl (by intro q hq; simp at hq; rcases hq with rfl | rfl | rfl <;> rfl) ?_
            have hnt : ¬ S.isTri (a * 40 + b) := fun z => by
              have z2 := ((St.isTri_code hb).mp z).2.2
              omega
            simp only [St.ul_addE, St.ul_addT] at *
            exact ih (b + 1) _ _ _ _ _ _ (by omega) (by omega) hE2 (St.lstT_no (S := S.ul ow co en ne tn ec) hT hnt)
          · skip
            refine pe_go rfl (s_icmp_le_f ⟨by omega, by omega⟩ ⟨by omega, by omega⟩ c5) ?_
            refine pe_go (pc := 90) rfl (s_aload_n rfl) ?_
            refine pe_go (pc := 91) rfl (s_iload_n rfl) ?_
            refine pe_go (pc := 92) rfl (s_iload_n rfl) ?_
            refine pe_go (pc := 93) rfl (s_iload_n rfl) ?_
            obtain ⟨c9, hc9⟩ := Int.eq_ofNat_of_zero_le (show 0 ≤ S.ap (a * 40 + b) by omega)
            have hc9b : c9 < 40 := by omega
            obtain ⟨u, hu⟩ : ∃ u : Nat, tn = (u : Int) := ⟨_, hT.1.1⟩
            have hti : S.isTri (a * 40 + b) := (St.isTri_code hb).mpr ⟨hab, by assumption, by omega⟩
            have h7u : u < 74 := by
              have h8 := hL.2.2.1
              have h9 := St.tl_len S (show a * 40 + b + 1 ≤ 1600 by omega)
              rw [St.tl_yes hti] at h9
              have h6 : tn = ((S.tl (a * 40 + b)).length : Int) := hT.1.1
              simp at h9
              omega
            have hT2 : ((((S.ul ow co en ne tn ec).addE a b t)).addT a b c9 u).lstT (a * 40 + b + 1) := St.lstT_add (S := ((S.ul ow co en ne tn ec).addE a b t)) ha hb hc9b hab (by omega) hA hcy hT hc9 (by assumption) hu
            refine pe_call rfl (s_invV rfl (gA0 hm (mB_0 _ _ _)) rfl rfl) ((show pRun 28 [.ref m, .int (iI (a : Int)), .int (iI (b : Int)), .int (iI (S.ap (a * 40 + b)))] _ _ _ from by rw [hc9]; exact c_listTri hm ((S.ul ow co en ne tn ec).addE a b t) ha hb hc9b hu h7u)) ?_
            refine pe_go (pc := 97) rfl (s_iinc (x := (b : Int)) (y := ((b + 1 : Nat) : Int)) rfl (by omega) (lv' := [(2, .int (iI ((b + 1 : Nat) : Int))), (3, .int (iI (S.ap (a * 40 + b)))), (0, .ref m), (1, .int (iI (a : Int)))]) rfl) ?_
            refine pe_go (pc := 100) rfl s_goto ?_
            refine pe_few (lv := [(2, .int (iI ((b + 1 : Nat) : Int))), (0, .ref m), (1, .int (iI (a : Int)))]) rfl rfl (by intro q hq; simp at hq; rcases hq with rfl | rfl | rfl <;> rfl) ?_
            simp only [St.ul_addE, St.ul_addT] at *
            exact ih (b + 1) _ _ _ _ _ _ (by omega) (by omega) hE2 hT2
      · skip
        refine pe_go rfl (s_icmp_ne_t ⟨by omega, by omega⟩ ⟨by decide, by decide⟩ c2) ?_
        refine pe_go (pc := 79) rfl (s_aload_n rfl) ?_
        refine pe_go (pc := 80) rfl (s_iload_n rfl) ?_
        refine pe_go (pc := 81) rfl (s_iload_n rfl) ?_
        obtain ⟨t, ht⟩ : ∃ t : Nat, ec = (t : Int) := ⟨_, hE.1.1⟩
        have he : S.isEdg (a * 40 + b) := (St.isEdg_code hb).mpr ⟨hab, by assumption, by first | exact Or.inl (by assumption) | exact Or.inr (by assumption)⟩
        have h7 : t < 113 := by
          have h8 := hL.2.2.2
          have h9 := St.el_len S (show a * 40 + b + 1 ≤ 1600 by omega)
          rw [St.el_yes he] at h9
          have h6 : ec = ((S.el (a * 40 + b)).length : Int) := hE.1.1
          simp at h9
          omega
        have hE2 := St.lstE_add ha hb hab hE he ht
        refine pe_call rfl (s_invV rfl (gA0 hm (mB_0 _ _ _)) rfl rfl) (c_listEdge hm (S.ul ow co en ne tn ec) ha hb ht h7) ?_
        refine pe_go (pc := 85) rfl (s_iload_n rfl) ?_
        refine pe_go (pc := 86) rfl (s_iload_n rfl) ?_
        by_cases c6 : (S.ap (a * 40 + b)) ≤ (a : Int)
        · skip
          refine pe_go rfl (s_icmp_le_t ⟨by omega, by omega⟩ ⟨by omega, by omega⟩ c6) ?_
          refine pe_go (pc := 97) rfl (s_iinc (x := (b : Int)) (y := ((b + 1 : Nat) : Int)) rfl (by omega) (lv' := [(2, .int (iI ((b + 1 : Nat) : Int))), (3, .int (iI (S.ap (a * 40 + b)))), (0, .ref m), (1, .int (iI (a : Int)))]) rfl) ?_
          refine pe_go (pc := 100) rfl s_goto ?_
          refine pe_few (lv := [(2, .int (iI ((b + 1 : Nat) : Int))), (0, .ref m), (1, .int (iI (a : Int)))]) rfl rfl (by intro q hq; simp at hq; rcases hq with rfl | rfl | rfl <;> rfl) ?_
          have hnt : ¬ S.isTri (a * 40 + b) := fun z => by
            have z2 := ((St.isTri_code hb).mp z).2.2
            omega
          simp only [St.ul_addE, St.ul_addT] at *
          exact ih (b + 1) _ _ _ _ _ _ (by omega) (by omega) hE2 (St.lstT_no (S := S.ul ow co en ne tn ec) hT hnt)
        · skip
          refine pe_go rfl (s_icmp_le_f ⟨by omega, by omega⟩ ⟨by omega, by omega⟩ c6) ?_
          refine pe_go (pc := 90) rfl (s_aload_n rfl) ?_
          refine pe_go (pc := 91) rfl (s_iload_n rfl) ?_
          refine pe_go (pc := 92) rfl (s_iload_n rfl) ?_
          refine pe_go (pc := 93) rfl (s_iload_n rfl) ?_
          obtain ⟨c9, hc9⟩ := Int.eq_ofNat_of_zero_le (show 0 ≤ S.ap (a * 40 + b) by omega)
          have hc9b : c9 < 40 := by omega
          obtain ⟨u, hu⟩ : ∃ u : Nat, tn = (u : Int) := ⟨_, hT.1.1⟩
          have hti : S.isTri (a * 40 + b) := (St.isTri_code hb).mpr ⟨hab, by assumption, by omega⟩
          have h7u : u < 74 := by
            have h8 := hL.2.2.1
            have h9 := St.tl_len S (show a * 40 + b + 1 ≤ 1600 by omega)
            rw [St.tl_yes hti] at h9
            have h6 : tn = ((S.tl (a * 40 + b)).length : Int) := hT.1.1
            simp at h9
            omega
          have hT2 : ((((S.ul ow co en ne tn ec).addE a b t)).addT a b c9 u).lstT (a * 40 + b + 1) := St.lstT_add (S := ((S.ul ow co en ne tn ec).addE a b t)) ha hb hc9b hab (by omega) hA hcy hT hc9 (by assumption) hu
          refine pe_call rfl (s_invV rfl (gA0 hm (mB_0 _ _ _)) rfl rfl) ((show pRun 28 [.ref m, .int (iI (a : Int)), .int (iI (b : Int)), .int (iI (S.ap (a * 40 + b)))] _ _ _ from by rw [hc9]; exact c_listTri hm ((S.ul ow co en ne tn ec).addE a b t) ha hb hc9b hu h7u)) ?_
          refine pe_go (pc := 97) rfl (s_iinc (x := (b : Int)) (y := ((b + 1 : Nat) : Int)) rfl (by omega) (lv' := [(2, .int (iI ((b + 1 : Nat) : Int))), (3, .int (iI (S.ap (a * 40 + b)))), (0, .ref m), (1, .int (iI (a : Int)))]) rfl) ?_
          refine pe_go (pc := 100) rfl s_goto ?_
          refine pe_few (lv := [(2, .int (iI ((b + 1 : Nat) : Int))), (0, .ref m), (1, .int (iI (a : Int)))]) rfl rfl (by intro q hq; simp at hq; rcases hq with rfl | rfl | rfl <;> rfl) ?_
          simp only [St.ul_addE, St.ul_addT] at *
          exact ih (b + 1) _ _ _ _ _ _ (by omega) (by omega) hE2 hT2
    · skip
      refine pe_go rfl (s_ifeq_false (decide_eq_false b1)) ?_
      refine pe_go (pc := 103) rfl (s_iinc (x := (a : Int)) (y := ((a + 1 : Nat) : Int)) rfl (by omega) (lv' := [(1, .int (iI ((a + 1 : Nat) : Int))), (2, .int (iI (b : Int))), (0, .ref m)]) rfl) ?_
      refine pe_go (pc := 106) rfl s_goto ?_
      have hsk : ∀ e : Nat, a * 40 + b ≤ e → e < a * 40 + b + (40 - b) → ¬ S.isEdg e ∧ ¬ S.isTri e := fun e g1 g2 => by
        have : e / 40 = a := by omega
        exact ⟨fun z => by have := z.2.1; rw [show e / 40 = a by omega] at this; contradiction, fun z => by have := z.2.1; rw [show e / 40 = a by omega] at this; contradiction⟩
      refine pe_few (lv := [(1, .int (iI ((a + 1 : Nat) : Int))), (0, .ref m)]) rfl rfl (by intro q hq; simp at hq; rcases hq with rfl | rfl <;> rfl) ?_
      exact K ow co en ne tn ec (by rw [show (a + 1) * 40 = a * 40 + b + (40 - b) by omega]; exact St.lstE_skip (S := S.ul ow co en ne tn ec) (40 - b) hE (fun e g1 g2 => (hsk e g1 g2).1)) (by rw [show (a + 1) * 40 = a * 40 + b + (40 - b) by omega]; exact St.lstT_skip (S := S.ul ow co en ne tn ec) (40 - b) hT (fun e g1 g2 => (hsk e g1 g2).2))
theorem l_list_out {pre post : pW} {m : Nat} (hm : pre.length = m) (S : St) (hL : S.okL) : ∀ (n a : Nat) (ow co en : Nat → Int) (ne : Nat → Int64) (tn ec : Int), a + n = 40 → (S.ul ow co en ne tn ec).lstE (a * 40) → (S.ul ow co en ne tn ec).lstT (a * 40) → qE 26 (20, [(1, .int (iI (a : Int))), (0, .ref m)], [], pre ++ (mB m (S.ul ow co en ne tn ec) ++ post)) (listW pre post m S) := by
  intro n
  induction n with
  | zero =>
    intro a ow co en ne tn ec hp hE hT
    refine pe_go (pc := 20) rfl (s_iload_n rfl) ?_
    refine pe_go (pc := 21) rfl (s_bipush (z := 40) rfl) ?_
    refine pe_go rfl (s_icmp_ge_t ⟨by omega, by omega⟩ ⟨by decide, by decide⟩ (by omega)) ?_
    exact pe_ret rfl s_retv ⟨rfl, ow, co, en, ne, tn, ec, by rw [show 1600 = a * 40 by omega]; exact hE, by rw [show 1600 = a * 40 by omega]; exact hT, rfl⟩
  | succ n ih =>
    intro a ow co en ne tn ec hp hE hT
    refine pe_go (pc := 20) rfl (s_iload_n rfl) ?_
    refine pe_go (pc := 21) rfl (s_bipush (z := 40) rfl) ?_
    refine pe_go rfl (s_icmp_ge_f ⟨by omega, by omega⟩ ⟨by decide, by decide⟩ (by omega)) ?_
    refine pe_go (pc := 26) rfl (s_iload_n rfl) ?_
    refine pe_go (pc := 27) rfl (s_iconst (z := 1) rfl) ?_
    refine pe_go (pc := 28) rfl s_iadd ?_
    refine pe_go (pc := 29) rfl (s_istore_n (lv' := [(2, .int (iI ((a : Int) + 1))), (1, .int (iI (a : Int))), (0, .ref m)]) rfl) ?_
    have hsk : ∀ e : Nat, a * 40 ≤ e → e < a * 40 + (a + 1) → ¬ S.isEdg e ∧ ¬ S.isTri e := fun e g1 g2 => ⟨fun z => by have := z.1; omega, fun z => by have := z.1; omega⟩
    refine pe_few (lv := [(2, .int (iI ((a + 1 : Nat) : Int))), (0, .ref m), (1, .int (iI (a : Int)))]) rfl rfl (by intro q hq; simp only [List.mem_cons, List.not_mem_nil, or_false] at hq; rcases hq with rfl | rfl | rfl <;> rfl) ?_
    refine l_list_in hm S hL (show a < 40 by omega) (fun ow co en ne tn ec h1 h2 => ih (a + 1) ow co en ne tn ec (by omega) h1 h2) (40 - (a + 1)) (a + 1) ow co en ne tn ec (by omega) (by omega) ?_ ?_
    · exact St.lstE_skip (S := S.ul ow co en ne tn ec) (a + 1) hE (fun e g1 g2 => (hsk e g1 g2).1)
    · exact St.lstT_skip (S := S.ul ow co en ne tn ec) (a + 1) hT (fun e g1 g2 => (hsk e g1 g2).2)
theorem c_list {pre post : pW} {m : Nat} (hm : pre.length = m) (S : St) (hL : S.okL) (hCN : S.okC ∧ S.okN) : qC 26 [.ref m] (pre ++ (mB m S ++ post)) (listW pre post m S) := by
  refine pc_run (lv := [(0, .ref m)]) rfl ?_
  rw [mB_eta m S]
  refine pe_go (pc := 0) rfl (s_aload_n rfl) ?_
  refine pe_go (pc := 1) rfl (s_iconst (z := 0) rfl) ?_
  refine pe_go (pc := 2) rfl (s_putf (w' := pre ++ (mB m (sM S.xs S.ys S.hs S.fx S.hx S.hy S.th S.hn S.g S.ap S.ow S.co S.en S.ne S.rd 0 S.ec S.li S.wa S.qu S.qn) ++ post)) (gA0 hm mM_0) (Nat.le_of_ble_eq_true rfl) rfl (gS0 hm mM_s_tn)) ?_
  refine pe_go (pc := 5) rfl (s_aload_n rfl) ?_
  refine pe_go (pc := 6) rfl (s_iconst (z := 0) rfl) ?_
  refine pe_go (pc := 7) rfl (s_putf (w' := pre ++ (mB m (sM S.xs S.ys S.hs S.fx S.hx S.hy S.th S.hn S.g S.ap S.ow S.co S.en S.ne S.rd 0 0 S.li S.wa S.qu S.qn) ++ post)) (gA0 hm mM_0) (Nat.le_of_ble_eq_true rfl) rfl (gS0 hm mM_s_ec)) ?_
  refine pe_go (pc := 10) rfl (s_aload_n rfl) ?_
  refine pe_go (pc := 11) rfl (s_getf (v := .ref (m + 12)) (gA0 hm mM_0) rfl) ?_
  refine pe_go (pc := 14) rfl s_lconst0 ?_
  refine pe_callE rfl (s_invS rfl rfl rfl) (c_fillNe hm _) ?_
  rintro _ _ ⟨rfl, f1, hf1, rfl⟩
  refine pe_go (pc := 18) rfl (s_iconst (z := 0) rfl) ?_
  refine pe_go (pc := 19) rfl (s_istore_n (lv' := [(1, .int (iI 0)), (0, .ref m)]) rfl) ?_
  refine l_list_out hm S hL 40 0 S.ow S.co S.en f1 0 0 rfl ⟨⟨rfl, fun t e h => by simp [St.el] at h, fun a b ha hb => ?_⟩, hCN.2⟩ ⟨⟨rfl, fun t e h => by simp [St.tl] at h, fun t e h => by simp [St.tl] at h⟩, hCN.1⟩
  show bt (f1 a) b = true ↔ _
  rw [hf1 a ha]
  constructor
  · intro z
    exact absurd z (by rw [show lI 0 = (0 : Int64) from rfl, bt_0]; decide)
  · rintro ⟨e, h1, -⟩
    omega
