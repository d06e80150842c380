/-! AN OBJECT BETWEEN CALLS; the calls that change it. By hand, rows laid by program (wip/p63/wk.py, wo.py, mk85.py). -/
/-- the object at b is in state S, with the steps L behind it; its image is K, with the steps M -/
def OB (pre post : pW) (b : Nat) (S : St) (L M : List St) (K : St) (w : pW) : Prop := S.Ok ∧ (∀ J : St, J ∈ L → J.Ok) ∧ L.length ≤ 20 ∧ (∀ J : St, J ∈ M ++ [K] → J.Ok) ∧ M.length ≤ 20 ∧ ∃ (pn : Nat → Int) (pb : Nat → Int64) (rn : Nat → Int) (rb : Nat → Int64) (cl : Nat → Int), keeps pn pb L ∧ keeps rn rb (M ++ [K]) ∧ w = (pre ++ oC (b + 1)) ++ (mB (b + 1) S ++ (oP (b + 1) pn pb (L.length : Int) rn rb (M.length : Int) cl ++ post))
theorem pshL_ok {S : St} {L : List St} (hS : S.Ok) (h : ∀ J : St, J ∈ L → J.Ok) : ∀ J : St, J ∈ pshL S L → J.Ok := by
  intro J hJ
  unfold pshL at hJ
  rw [List.mem_append] at hJ
  rcases hJ with g | g
  · split at g
    · exact h J g
    · exact h J (List.mem_of_mem_tail g)
  · rw [List.mem_singleton] at g
    rw [g]
    exact hS
theorem OB_push {pre post : pW} {b : Nat} {S R : St} {L M : List St} {K : St} {pn : Nat → Int} {pb : Nat → Int64} {rn : Nat → Int} {rb : Nat → Int64} {cl : Nat → Int} (hS : S.Ok) (hR : R.Ok) (hLo : ∀ J : St, J ∈ L → J.Ok) (hLl : L.length ≤ 20) (hMo : ∀ J : St, J ∈ M ++ [K] → J.Ok) (hMl : M.length ≤ 20) (kp : keeps pn pb L) (kr : keeps rn rb (M ++ [K])) : OB pre post b R (pshL S L) M K ((pre ++ oC (b + 1)) ++ (mB (b + 1) R ++ (oP (b + 1) (S.pshN L.length pn) (S.pshB L.length pb) (pshC L.length : Int) rn rb (M.length : Int) cl ++ post))) :=
  ⟨hR, pshL_ok hS hLo, pshL_le hLl, hMo, hMl, _, _, rn, rb, cl, keeps_push kp hLl S, kr, by rw [pshL_len hLl]⟩
theorem OB_at {pre post : pW} {b : Nat} {R : St} {L M : List St} {K : St} {pn : Nat → Int} {pb : Nat → Int64} {rn : Nat → Int} {rb : Nat → Int64} {cl : Nat → Int} (hR : R.Ok) (hLo : ∀ J : St, J ∈ L → J.Ok) (hLl : L.length ≤ 20) (hMo : ∀ J : St, J ∈ M ++ [K] → J.Ok) (hMl : M.length ≤ 20) (kp : keeps pn pb L) (kr : keeps rn rb (M ++ [K])) : OB pre post b R L M K ((pre ++ oC (b + 1)) ++ (mB (b + 1) R ++ (oP (b + 1) pn pb (L.length : Int) rn rb (M.length : Int) cl ++ post))) :=
  ⟨hR, hLo, hLl, hMo, hMl, pn, pb, rn, rb, cl, kp, kr, rfl⟩
/-- what hangs on neither heights, holes nor G -/
theorem St.Ok_same {S : St} (h : S.Ok) {hs hx hy : Nat → Int} {hn g : Int} (hg : (sM S.xs S.ys hs S.fx hx hy S.th hn g S.ap S.ow S.co S.en S.ne S.rd S.tn S.ec S.li S.wa S.qu S.qn).Rg) : (sM S.xs S.ys hs S.fx hx hy S.th hn g S.ap S.ow S.co S.en S.ne S.rd S.tn S.ec S.li S.wa S.qu S.qn).Ok := by
  obtain ⟨⟨hM, hD, hI, hq, hn9, hc⟩, hE, hT, hR, -⟩ := h
  have hcg : S.cong (sM S.xs S.ys hs S.fx hx hy S.th hn g S.ap S.ow S.co S.en S.ne S.rd S.tn S.ec S.li S.wa S.qu S.qn) := ⟨hI.B, fun _ _ => Iff.rfl, fun _ _ _ => ⟨rfl, rfl⟩, fun _ _ => rfl, fun _ _ _ _ => Iff.rfl⟩
  exact ⟨⟨St.cong_Msh hcg hM, St.cong_Del hcg hM.1 hD, hI, hq, hn9, hc⟩, hE, hT, hR, hg⟩
/-- a number that names no point -/
abbrev outP (z : Int) : Prop := z < 0 ∨ 40 ≤ z
theorem o_point {pre post : pW} {b : Nat} (hb : pre.length = b) {S : St} {L M : List St} {K : St} {w : pW} (hO : OB pre post b S L M K w) {x y : Int} (hx : sm x) (hy : sm y) : qC 87 [.ref b, .int (iI x), .int (iI y)] w (fun r w' => (S.takes x y ∧ ∃ (p : Nat) (R : St), S.lu = (p : Int) ∧ r = some (.int (iI (p : Int))) ∧ S.laid R p x y ∧ (S.u_hs (uZ S.hs p 0)).rst R ∧ OB pre post b R (pshL S L) M K w') ∨ (¬ S.takes x y ∧ r = some (.int (iI (-1))) ∧ OB pre post b S L M K w')) := by
  obtain ⟨hS, hLo, hLl, hMo, hMl, pn, pb, rn, rb, cl, kp, kr, rfl⟩ := hO
  refine pc_run (lv := [(0, .ref b), (1, .int (iI x)), (2, .int (iI y))]) rfl ?_
  refine pe_go (pc := 0) rfl (s_aload_n rfl) ?_
  refine pe_go (pc := 1) rfl (s_getf (v := .ref (b + 1)) (gO hb) rfl) ?_
  refine pe_go (pc := 4) rfl (s_getf (v := .ref (b + 1 + 1)) (gA0 (oC_len hb) (mB_0 _ _ _)) rfl) ?_
  refine pe_go (pc := 7) rfl (s_iload_n rfl) ?_
  refine pe_go (pc := 8) rfl (s_iload_n rfl) ?_
  refine pe_call rfl (s_invV rfl (gA (oC_len hb) (mB_1 _ _ _)) rfl rfl) (c_takes (oC_len hb) S hx hy hS.B) ?_
  by_cases b1 : S.takes x y
  · skip
    refine pe_go rfl (s_ifne_true (decide_eq_true b1)) ?_
    refine pe_go (pc := 17) rfl (s_aload_n rfl) ?_
    refine pe_go (pc := 18) rfl (s_getf (v := .ref (b + 1 + 34)) (gO hb) rfl) ?_
    refine pe_go (pc := 21) rfl (s_aload_n rfl) ?_
    refine pe_go (pc := 22) rfl (s_getf (v := .ref (b + 1)) (gO hb) rfl) ?_
    refine pe_call rfl (s_invV rfl (gA (oC_len hb) oX_P) rfl rfl) (c_push hb S (k := L.length) hLl) ?_
    refine pe_go (pc := 28) rfl (s_aload_n rfl) ?_
    refine pe_go (pc := 29) rfl (s_getf (v := .ref (b + 1)) (gO hb) rfl) ?_
    refine pe_go (pc := 32) rfl (s_iload_n rfl) ?_
    refine pe_go (pc := 33) rfl (s_iload_n rfl) ?_
    refine pe_callE rfl (s_invV rfl (gA0 (oC_len hb) (mB_0 _ _ _)) rfl rfl) (k_tell (oC_len hb) hS (x := x) (y := y) (by assumption)) ?_
    rintro _ _ ⟨p2, hlu2, rfl, R2, hR2, hl2, hr2, rfl⟩
    exact pe_ret rfl s_reti (Or.inl ⟨by assumption, p2, R2, hlu2, rfl, hl2, hr2, OB_push hS hR2 hLo hLl hMo hMl kp kr⟩)
  · skip
    refine pe_go rfl (s_ifne_false (decide_eq_false b1)) ?_
    refine pe_go (pc := 15) rfl (s_iconst (z := -1) rfl) ?_
    exact pe_ret rfl s_reti (Or.inr ⟨by assumption, rfl, OB_at hS hLo hLl hMo hMl kp kr⟩)
theorem o_drop {pre post : pW} {b : Nat} (hb : pre.length = b) {S : St} {L M : List St} {K : St} {w : pW} (hO : OB pre post b S L M K w) {p : Nat} (hp : p < 40) : qC 88 [.ref b, .int (iI (p : Int))] w (fun r w' => ((S.has p ∧ S.fx p = lI 0) ∧ r = some (.int (bI true)) ∧ ∃ R : St, (R.xs = S.xs ∧ R.ys = S.ys ∧ R.th = bClr S.th p ∧ R.fx = S.fx) ∧ S.rst R ∧ OB pre post b R (pshL S L) M K w') ∨ (¬ (S.has p ∧ S.fx p = lI 0) ∧ r = some (.int (bI false)) ∧ OB pre post b S L M K w')) := by
  obtain ⟨hS, hLo, hLl, hMo, hMl, pn, pb, rn, rb, cl, kp, kr, rfl⟩ := hO
  refine pc_run (lv := [(0, .ref b), (1, .int (iI (p : Int)))]) rfl ?_
  refine pe_go (pc := 0) rfl (s_aload_n rfl) ?_
  refine pe_go (pc := 1) rfl (s_getf (v := .ref (b + 1)) (gO hb) rfl) ?_
  refine pe_go (pc := 4) rfl (s_getf (v := .ref (b + 1 + 1)) (gA0 (oC_len hb) (mB_0 _ _ _)) rfl) ?_
  refine pe_go (pc := 7) rfl (s_iload_n rfl) ?_
  refine pe_call rfl (s_invV rfl (gA (oC_len hb) (mB_1 _ _ _)) rfl rfl) (c_isLoose (oC_len hb) S hp) ?_
  by_cases b1 : S.has p ∧ S.fx p = lI 0
  · skip
    refine pe_go rfl (s_ifne_true (decide_eq_true b1)) ?_
    refine pe_go (pc := 16) rfl (s_aload_n rfl) ?_
    refine pe_go (pc := 17) rfl (s_getf (v := .ref (b + 1 + 34)) (gO hb) rfl) ?_
    refine pe_go (pc := 20) rfl (s_aload_n rfl) ?_
    refine pe_go (pc := 21) rfl (s_getf (v := .ref (b + 1)) (gO hb) rfl) ?_
    refine pe_call rfl (s_invV rfl (gA (oC_len hb) oX_P) rfl rfl) (c_push hb S (k := L.length) hLl) ?_
    refine pe_go (pc := 27) rfl (s_aload_n rfl) ?_
    refine pe_go (pc := 28) rfl (s_getf (v := .ref (b + 1)) (gO hb) rfl) ?_
    refine pe_go (pc := 31) rfl (s_iload_n rfl) ?_
    refine pe_callE rfl (s_invV rfl (gA0 (oC_len hb) (mB_0 _ _ _)) rfl rfl) (k_out (oC_len hb) hS hp (And.left (by assumption)) (And.right (by assumption))) ?_
    rintro _ _ ⟨rfl, R2, hR2, hl2, hr2, rfl⟩
    refine pe_go (pc := 35) rfl (s_iconst (z := 1) rfl) ?_
    exact pe_ret rfl s_ret1 (Or.inl ⟨by assumption, rfl, R2, hl2, hr2, OB_push hS hR2 hLo hLl hMo hMl kp kr⟩)
  · skip
    refine pe_go rfl (s_ifne_false (decide_eq_false b1)) ?_
    refine pe_go (pc := 14) rfl (s_iconst (z := 0) rfl) ?_
    exact pe_ret rfl s_ret0 (Or.inr ⟨by assumption, rfl, OB_at hS hLo hLl hMo hMl kp kr⟩)
theorem c_isLooseN {pre post : pW} {m : Nat} (hm : pre.length = m) (S : St) {z : Int} (hz : sm z) (ho : outP z) : pRun 71 [.ref (m + 1), .int (iI z)] (pre ++ (mB m S ++ post)) (some (.int (bI false))) (pre ++ (mB m S ++ post)) := by
  refine qx_run ?_
  refine pc_run (lv := [(0, .ref (m + 1)), (1, .int (iI z))]) rfl ?_
  refine pe_go (pc := 0) rfl (s_aload_n rfl) ?_
  refine pe_go (pc := 1) rfl (s_iload_n rfl) ?_
  refine pe_call rfl (s_invV rfl (gA hm (mB_1 _ _ _)) rfl rfl) (c_hasN hm S hz ho) ?_
  refine pe_go rfl (s_ifeq_false rfl) ?_
  refine pe_go (pc := 23) rfl (s_iconst (z := 0) rfl) ?_
  exact pe_ret rfl s_ret0 ⟨rfl, rfl⟩
theorem c_sightA {pre post : pW} {m : Nat} (hm : pre.length = m) (S : St) {z y : Int} (hz : sm z) (ho : outP z) : pRun 41 [.ref m, .int (iI z), .int (iI y)] (pre ++ (mB m S ++ post)) (some (.int (bI false))) (pre ++ (mB m S ++ post)) := by
  refine qx_run ?_
  refine pc_run (lv := [(0, .ref m), (1, .int (iI z)), (2, .int (iI y))]) rfl ?_
  refine pe_go (pc := 0) rfl (s_aload_n rfl) ?_
  refine pe_go (pc := 1) rfl (s_getf (v := .ref (m + 1)) (gA0 hm (mB_0 _ _ _)) rfl) ?_
  refine pe_go (pc := 4) rfl (s_iload_n rfl) ?_
  refine pe_call rfl (s_invV rfl (gA hm (mB_1 _ _ _)) rfl rfl) (c_hasN hm S hz ho) ?_
  refine pe_go rfl (s_ifeq_false rfl) ?_
  refine pe_go (pc := 27) rfl (s_iconst (z := 0) rfl) ?_
  exact pe_ret rfl s_ret0 ⟨rfl, rfl⟩
theorem c_sightB {pre post : pW} {m : Nat} (hm : pre.length = m) (S : St) {p : Nat} {z : Int} (hp : p < 40) (hz : sm z) (ho : outP z) : pRun 41 [.ref m, .int (iI (p : Int)), .int (iI z)] (pre ++ (mB m S ++ post)) (some (.int (bI false))) (pre ++ (mB m S ++ post)) := by
  refine qx_run ?_
  refine pc_run (lv := [(0, .ref m), (1, .int (iI (p : Int))), (2, .int (iI z))]) rfl ?_
  refine pe_go (pc := 0) rfl (s_aload_n rfl) ?_
  refine pe_go (pc := 1) rfl (s_getf (v := .ref (m + 1)) (gA0 hm (mB_0 _ _ _)) rfl) ?_
  refine pe_go (pc := 4) rfl (s_iload_n rfl) ?_
  refine pe_call rfl (s_invV rfl (gA hm (mB_1 _ _ _)) rfl rfl) (c_has hm S hp) ?_
  by_cases b1 : S.has p
  · skip
    refine pe_go rfl (s_ifeq_true (decide_eq_true b1)) ?_
    refine pe_go (pc := 11) rfl (s_aload_n rfl) ?_
    refine pe_go (pc := 12) rfl (s_getf (v := .ref (m + 1)) (gA0 hm (mB_0 _ _ _)) rfl) ?_
    refine pe_go (pc := 15) rfl (s_iload_n rfl) ?_
    refine pe_call rfl (s_invV rfl (gA hm (mB_1 _ _ _)) rfl rfl) (c_hasN hm S hz ho) ?_
    refine pe_go rfl (s_ifeq_false rfl) ?_
    refine pe_go (pc := 27) rfl (s_iconst (z := 0) rfl) ?_
    exact pe_ret rfl s_ret0 ⟨rfl, rfl⟩
  · skip
    refine pe_go rfl (s_ifeq_false (decide_eq_false b1)) ?_
    refine pe_go (pc := 27) rfl (s_iconst (z := 0) rfl) ?_
    exact pe_ret rfl s_ret0 ⟨rfl, rfl⟩
theorem c_canFixA {pre post : pW} {m : Nat} (hm : pre.length = m) (S : St) {z y : Int} (hz : sm z) (ho : outP z) : pRun 10 [.ref m, .int (iI z), .int (iI y)] (pre ++ (mB m S ++ post)) (some (.int (bI false))) (pre ++ (mB m S ++ post)) := by
  refine qx_run ?_
  refine pc_run (lv := [(0, .ref m), (1, .int (iI z)), (2, .int (iI y))]) rfl ?_
  refine pe_go (pc := 0) rfl (s_aload_n rfl) ?_
  refine pe_go (pc := 1) rfl (s_iload_n rfl) ?_
  refine pe_go (pc := 2) rfl (s_iload_n rfl) ?_
  refine pe_call rfl (s_invV rfl (gA0 hm (mB_0 _ _ _)) rfl rfl) (c_sightA hm S hz ho) ?_
  refine pe_go rfl (s_ifeq_false rfl) ?_
  refine pe_go (pc := 25) rfl (s_iconst (z := 0) rfl) ?_
  exact pe_ret rfl s_ret0 ⟨rfl, rfl⟩
theorem c_canFixB {pre post : pW} {m : Nat} (hm : pre.length = m) (S : St) {p : Nat} {z : Int} (hp : p < 40) (hz : sm z) (ho : outP z) : pRun 10 [.ref m, .int (iI (p : Int)), .int (iI z)] (pre ++ (mB m S ++ post)) (some (.int (bI false))) (pre ++ (mB m S ++ post)) := by
  refine qx_run ?_
  refine pc_run (lv := [(0, .ref m), (1, .int (iI (p : Int))), (2, .int (iI z))]) rfl ?_
  refine pe_go (pc := 0) rfl (s_aload_n rfl) ?_
  refine pe_go (pc := 1) rfl (s_iload_n rfl) ?_
  refine pe_go (pc := 2) rfl (s_iload_n rfl) ?_
  refine pe_call rfl (s_invV rfl (gA0 hm (mB_0 _ _ _)) rfl rfl) (c_sightB hm S hp hz ho) ?_
  refine pe_go rfl (s_ifeq_false rfl) ?_
  refine pe_go (pc := 25) rfl (s_iconst (z := 0) rfl) ?_
  exact pe_ret rfl s_ret0 ⟨rfl, rfl⟩
theorem c_canFreeA {pre post : pW} {m : Nat} (hm : pre.length = m) (S : St) {z y : Int} (hz : sm z) (ho : outP z) : pRun 13 [.ref m, .int (iI z), .int (iI y)] (pre ++ (mB m S ++ post)) (some (.int (bI false))) (pre ++ (mB m S ++ post)) := by
  refine qx_run ?_
  refine pc_run (lv := [(0, .ref m), (1, .int (iI z)), (2, .int (iI y))]) rfl ?_
  refine pe_go (pc := 0) rfl (s_aload_n rfl) ?_
  refine pe_go (pc := 1) rfl (s_getf (v := .ref (m + 1)) (gA0 hm (mB_0 _ _ _)) rfl) ?_
  refine pe_go (pc := 4) rfl (s_iload_n rfl) ?_
  refine pe_call rfl (s_invV rfl (gA hm (mB_1 _ _ _)) rfl rfl) (c_hasN hm S hz ho) ?_
  refine pe_go rfl (s_ifeq_false rfl) ?_
  refine pe_go (pc := 34) rfl (s_iconst (z := 0) rfl) ?_
  exact pe_ret rfl s_ret0 ⟨rfl, rfl⟩
theorem c_canFreeB {pre post : pW} {m : Nat} (hm : pre.length = m) (S : St) {p : Nat} {z : Int} (hp : p < 40) (hz : sm z) (ho : outP z) : pRun 13 [.ref m, .int (iI (p : Int)), .int (iI z)] (pre ++ (mB m S ++ post)) (some (.int (bI false))) (pre ++ (mB m S ++ post)) := by
  refine qx_run ?_
  refine pc_run (lv := [(0, .ref m), (1, .int (iI (p : Int))), (2, .int (iI z))]) rfl ?_
  refine pe_go (pc := 0) rfl (s_aload_n rfl) ?_
  refine pe_go (pc := 1) rfl (s_getf (v := .ref (m + 1)) (gA0 hm (mB_0 _ _ _)) rfl) ?_
  refine pe_go (pc := 4) rfl (s_iload_n rfl) ?_
  refine pe_call rfl (s_invV rfl (gA hm (mB_1 _ _ _)) rfl rfl) (c_has hm S hp) ?_
  by_cases b1 : S.has p
  · skip
    refine pe_go rfl (s_ifeq_true (decide_eq_true b1)) ?_
    refine pe_go (pc := 11) rfl (s_aload_n rfl) ?_
    refine pe_go (pc := 12) rfl (s_getf (v := .ref (m + 1)) (gA0 hm (mB_0 _ _ _)) rfl) ?_
    refine pe_go (pc := 15) rfl (s_iload_n rfl) ?_
    refine pe_call rfl (s_invV rfl (gA hm (mB_1 _ _ _)) rfl rfl) (c_hasN hm S hz ho) ?_
    refine pe_go rfl (s_ifeq_false rfl) ?_
    refine pe_go (pc := 34) rfl (s_iconst (z := 0) rfl) ?_
    exact pe_ret rfl s_ret0 ⟨rfl, rfl⟩
  · skip
    refine pe_go rfl (s_ifeq_false (decide_eq_false b1)) ?_
    refine pe_go (pc := 34) rfl (s_iconst (z := 0) rfl) ?_
    exact pe_ret rfl s_ret0 ⟨rfl, rfl⟩
theorem o_dropN {pre post : pW} {b : Nat} (hb : pre.length = b) {S : St} {L M : List St} {K : St} {w : pW} (hO : OB pre post b S L M K w) {z : Int} (hz : sm z) (ho : outP z) : pRun 88 [.ref b, .int (iI z)] w (some (.int (bI false))) w := by
  obtain ⟨hS, hLo, hLl, hMo, hMl, pn, pb, rn, rb, cl, kp, kr, rfl⟩ := hO
  refine qx_run ?_
  refine pc_run (lv := [(0, .ref b), (1, .int (iI z))]) rfl ?_
  refine pe_go (pc := 0) rfl (s_aload_n rfl) ?_
  refine pe_go (pc := 1) rfl (s_getf (v := .ref (b + 1)) (gO hb) rfl) ?_
  refine pe_go (pc := 4) rfl (s_getf (v := .ref (b + 1 + 1)) (gA0 (oC_len hb) (mB_0 _ _ _)) rfl) ?_
  refine pe_go (pc := 7) rfl (s_iload_n rfl) ?_
  refine pe_call rfl (s_invV rfl (gA (oC_len hb) (mB_1 _ _ _)) rfl rfl) (c_isLooseN (oC_len hb) S hz ho) ?_
  refine pe_go rfl (s_ifne_false rfl) ?_
  refine pe_go (pc := 14) rfl (s_iconst (z := 0) rfl) ?_
  exact pe_ret rfl s_ret0 ⟨rfl, rfl⟩
theorem o_moveN {pre post : pW} {b : Nat} (hb : pre.length = b) {S : St} {L M : List St} {K : St} {w : pW} (hO : OB pre post b S L M K w) {z x y : Int} (hz : sm z) (ho : outP z) : pRun 89 [.ref b, .int (iI z), .int (iI x), .int (iI y)] w (some (.int (bI false))) w := by
  obtain ⟨hS, hLo, hLl, hMo, hMl, pn, pb, rn, rb, cl, kp, kr, rfl⟩ := hO
  refine qx_run ?_
  refine pc_run (lv := [(0, .ref b), (1, .int (iI z)), (2, .int (iI x)), (3, .int (iI y))]) rfl ?_
  refine pe_go (pc := 0) rfl (s_aload_n rfl) ?_
  refine pe_go (pc := 1) rfl (s_getf (v := .ref (b + 1)) (gO hb) rfl) ?_
  refine pe_go (pc := 4) rfl (s_getf (v := .ref (b + 1 + 1)) (gA0 (oC_len hb) (mB_0 _ _ _)) rfl) ?_
  refine pe_go (pc := 7) rfl (s_iload_n rfl) ?_
  refine pe_call rfl (s_invV rfl (gA (oC_len hb) (mB_1 _ _ _)) rfl rfl) (c_isLooseN (oC_len hb) S hz ho) ?_
  refine pe_go rfl (s_ifeq_false rfl) ?_
  refine pe_go (pc := 38) rfl (s_iconst (z := 0) rfl) ?_
  exact pe_ret rfl s_ret0 ⟨rfl, rfl⟩
theorem o_fixA {pre post : pW} {b : Nat} (hb : pre.length = b) {S : St} {L M : List St} {K : St} {w : pW} (hO : OB pre post b S L M K w) {z y : Int} (hz : sm z) (ho : outP z) : pRun 90 [.ref b, .int (iI z), .int (iI y)] w (some (.int (bI false))) w := by
  obtain ⟨hS, hLo, hLl, hMo, hMl, pn, pb, rn, rb, cl, kp, kr, rfl⟩ := hO
  refine qx_run ?_
  refine pc_run (lv := [(0, .ref b), (1, .int (iI z)), (2, .int (iI y))]) rfl ?_
  refine pe_go (pc := 0) rfl (s_aload_n rfl) ?_
  refine pe_go (pc := 1) rfl (s_getf (v := .ref (b + 1)) (gO hb) rfl) ?_
  refine pe_go (pc := 4) rfl (s_iload_n rfl) ?_
  refine pe_go (pc := 5) rfl (s_iload_n rfl) ?_
  refine pe_call rfl (s_invV rfl (gA0 (oC_len hb) (mB_0 _ _ _)) rfl rfl) (c_canFixA (oC_len hb) S hz ho) ?_
  refine pe_go rfl (s_ifne_false rfl) ?_
  refine pe_go (pc := 12) rfl (s_iconst (z := 0) rfl) ?_
  exact pe_ret rfl s_ret0 ⟨rfl, rfl⟩
theorem o_fixB {pre post : pW} {b : Nat} (hb : pre.length = b) {S : St} {L M : List St} {K : St} {w : pW} (hO : OB pre post b S L M K w) {p : Nat} {z : Int} (hp : p < 40) (hz : sm z) (ho : outP z) : pRun 90 [.ref b, .int (iI (p : Int)), .int (iI z)] w (some (.int (bI false))) w := by
  obtain ⟨hS, hLo, hLl, hMo, hMl, pn, pb, rn, rb, cl, kp, kr, rfl⟩ := hO
  refine qx_run ?_
  refine pc_run (lv := [(0, .ref b), (1, .int (iI (p : Int))), (2, .int (iI z))]) rfl ?_
  refine pe_go (pc := 0) rfl (s_aload_n rfl) ?_
  refine pe_go (pc := 1) rfl (s_getf (v := .ref (b + 1)) (gO hb) rfl) ?_
  refine pe_go (pc := 4) rfl (s_iload_n rfl) ?_
  refine pe_go (pc := 5) rfl (s_iload_n rfl) ?_
  refine pe_call rfl (s_invV rfl (gA0 (oC_len hb) (mB_0 _ _ _)) rfl rfl) (c_canFixB (oC_len hb) S hp hz ho) ?_
  refine pe_go rfl (s_ifne_false rfl) ?_
  refine pe_go (pc := 12) rfl (s_iconst (z := 0) rfl) ?_
  exact pe_ret rfl s_ret0 ⟨rfl, rfl⟩
theorem o_freeA {pre post : pW} {b : Nat} (hb : pre.length = b) {S : St} {L M : List St} {K : St} {w : pW} (hO : OB pre post b S L M K w) {z y : Int} (hz : sm z) (ho : outP z) : pRun 91 [.ref b, .int (iI z), .int (iI y)] w (some (.int (bI false))) w := by
  obtain ⟨hS, hLo, hLl, hMo, hMl, pn, pb, rn, rb, cl, kp, kr, rfl⟩ := hO
  refine qx_run ?_
  refine pc_run (lv := [(0, .ref b), (1, .int (iI z)), (2, .int (iI y))]) rfl ?_
  refine pe_go (pc := 0) rfl (s_aload_n rfl) ?_
  refine pe_go (pc := 1) rfl (s_getf (v := .ref (b + 1)) (gO hb) rfl) ?_
  refine pe_go (pc := 4) rfl (s_iload_n rfl) ?_
  refine pe_go (pc := 5) rfl (s_iload_n rfl) ?_
  refine pe_call rfl (s_invV rfl (gA0 (oC_len hb) (mB_0 _ _ _)) rfl rfl) (c_canFreeA (oC_len hb) S hz ho) ?_
  refine pe_go rfl (s_ifne_false rfl) ?_
  refine pe_go (pc := 12) rfl (s_iconst (z := 0) rfl) ?_
  exact pe_ret rfl s_ret0 ⟨rfl, rfl⟩
theorem o_freeB {pre post : pW} {b : Nat} (hb : pre.length = b) {S : St} {L M : List St} {K : St} {w : pW} (hO : OB pre post b S L M K w) {p : Nat} {z : Int} (hp : p < 40) (hz : sm z) (ho : outP z) : pRun 91 [.ref b, .int (iI (p : Int)), .int (iI z)] w (some (.int (bI false))) w := by
  obtain ⟨hS, hLo, hLl, hMo, hMl, pn, pb, rn, rb, cl, kp, kr, rfl⟩ := hO
  refine qx_run ?_
  refine pc_run (lv := [(0, .ref b), (1, .int (iI (p : Int))), (2, .int (iI z))]) rfl ?_
  refine pe_go (pc := 0) rfl (s_aload_n rfl) ?_
  refine pe_go (pc := 1) rfl (s_getf (v := .ref (b + 1)) (gO hb) rfl) ?_
  refine pe_go (pc := 4) rfl (s_iload_n rfl) ?_
  refine pe_go (pc := 5) rfl (s_iload_n rfl) ?_
  refine pe_call rfl (s_invV rfl (gA0 (oC_len hb) (mB_0 _ _ _)) rfl rfl) (c_canFreeB (oC_len hb) S hp hz ho) ?_
  refine pe_go rfl (s_ifne_false rfl) ?_
  refine pe_go (pc := 12) rfl (s_iconst (z := 0) rfl) ?_
  exact pe_ret rfl s_ret0 ⟨rfl, rfl⟩
theorem o_heightN {pre post : pW} {b : Nat} (hb : pre.length = b) {S : St} {L M : List St} {K : St} {w : pW} (hO : OB pre post b S L M K w) {z y : Int} (hz : sm z) (ho : outP z) : pRun 93 [.ref b, .int (iI z), .int (iI y)] w (some (.int (bI false))) w := by
  obtain ⟨hS, hLo, hLl, hMo, hMl, pn, pb, rn, rb, cl, kp, kr, rfl⟩ := hO
  refine qx_run ?_
  refine pc_run (lv := [(0, .ref b), (1, .int (iI z)), (2, .int (iI y))]) rfl ?_
  refine pe_go (pc := 0) rfl (s_aload_n rfl) ?_
  refine pe_go (pc := 1) rfl (s_getf (v := .ref (b + 1)) (gO hb) rfl) ?_
  refine pe_go (pc := 4) rfl (s_getf (v := .ref (b + 1 + 1)) (gA0 (oC_len hb) (mB_0 _ _ _)) rfl) ?_
  refine pe_go (pc := 7) rfl (s_iload_n rfl) ?_
  refine pe_call rfl (s_invV rfl (gA (oC_len hb) (mB_1 _ _ _)) rfl rfl) (c_hasN (oC_len hb) S hz ho) ?_
  refine pe_go rfl (s_ifeq_false rfl) ?_
  refine pe_go (pc := 28) rfl (s_iconst (z := 0) rfl) ?_
  exact pe_ret rfl s_ret0 ⟨rfl, rfl⟩
theorem St.atP_sm (S : St) (x y : Int) : sm (S.atP x y) := by
  rcases S.atF_ge x y 40 0 with ⟨h, -⟩ | ⟨q, -, h2, h3, -⟩
  · unfold St.atP; rw [h]; exact ⟨by decide, by decide⟩
  · unfold St.atP; rw [h3]; exact ⟨by omega, by omega⟩
theorem o_move {pre post : pW} {b : Nat} (hb : pre.length = b) {S : St} {L M : List St} {K : St} {w : pW} (hO : OB pre post b S L M K w) {p : Nat} (hp : p < 40) {x y : Int} (hx : sm x) (hy : sm y) : qC 89 [.ref b, .int (iI (p : Int)), .int (iI x), .int (iI y)] w (fun r w' => (((S.has p ∧ S.fx p = lI 0) ∧ inSq x y ∧ S.atP x y = -1) ∧ r = some (.int (bI true)) ∧ ∃ R T : St, R.Ok ∧ (R.xs = S.xs ∧ R.ys = S.ys ∧ R.th = bClr S.th p ∧ R.fx = S.fx) ∧ S.rst R ∧ R.laid T p x y ∧ R.rst T ∧ OB pre post b T (pshL S L) M K w') ∨ (¬ ((S.has p ∧ S.fx p = lI 0) ∧ inSq x y ∧ S.atP x y = -1) ∧ r = some (.int (bI false)) ∧ OB pre post b S L M K w')) := by
  obtain ⟨hS, hLo, hLl, hMo, hMl, pn, pb, rn, rb, cl, kp, kr, rfl⟩ := hO
  refine pc_run (lv := [(0, .ref b), (1, .int (iI (p : Int))), (2, .int (iI x)), (3, .int (iI y))]) rfl ?_
  refine pe_go (pc := 0) rfl (s_aload_n rfl) ?_
  refine pe_go (pc := 1) rfl (s_getf (v := .ref (b + 1)) (gO hb) rfl) ?_
  refine pe_go (pc := 4) rfl (s_getf (v := .ref (b + 1 + 1)) (gA0 (oC_len hb) (mB_0 _ _ _)) rfl) ?_
  refine pe_go (pc := 7) rfl (s_iload_n rfl) ?_
  refine pe_call rfl (s_invV rfl (gA (oC_len hb) (mB_1 _ _ _)) rfl rfl) (c_isLoose (oC_len hb) S hp) ?_
  by_cases b1 : S.has p ∧ S.fx p = lI 0
  · skip
    refine pe_go rfl (s_ifeq_true (decide_eq_true b1)) ?_
    refine pe_go (pc := 14) rfl (s_iload_n rfl) ?_
    refine pe_go (pc := 15) rfl (s_iload_n rfl) ?_
    refine pe_call rfl (s_invS rfl rfl rfl) (c_inSq hx hy) ?_
    by_cases b2 : inSq x y
    · skip
      refine pe_go rfl (s_ifeq_true (decide_eq_true b2)) ?_
      refine pe_go (pc := 22) rfl (s_aload_n rfl) ?_
      refine pe_go (pc := 23) rfl (s_getf (v := .ref (b + 1)) (gO hb) rfl) ?_
      refine pe_go (pc := 26) rfl (s_getf (v := .ref (b + 1 + 1)) (gA0 (oC_len hb) (mB_0 _ _ _)) rfl) ?_
      refine pe_go (pc := 29) rfl (s_iload_n rfl) ?_
      refine pe_go (pc := 30) rfl (s_iload_n rfl) ?_
      refine pe_call rfl (s_invV rfl (gA (oC_len hb) (mB_1 _ _ _)) rfl rfl) (c_atPlace (oC_len hb) S hx hy hS.B) ?_
      refine pe_go (pc := 34) rfl (s_iconst (z := -1) rfl) ?_
      by_cases c3 : (S.atP x y) = (-1)
      · skip
        refine pe_go rfl (s_icmp_eq_t (S.atP_sm x y) ⟨by decide, by decide⟩ c3) ?_
        refine pe_go (pc := 40) rfl (s_aload_n rfl) ?_
        refine pe_go (pc := 41) rfl (s_getf (v := .ref (b + 1 + 34)) (gO hb) rfl) ?_
        refine pe_go (pc := 44) rfl (s_aload_n rfl) ?_
        refine pe_go (pc := 45) rfl (s_getf (v := .ref (b + 1)) (gO hb) rfl) ?_
        refine pe_call rfl (s_invV rfl (gA (oC_len hb) oX_P) rfl rfl) (c_push hb S (k := L.length) hLl) ?_
        refine pe_go (pc := 51) rfl (s_aload_n rfl) ?_
        refine pe_go (pc := 52) rfl (s_getf (v := .ref (b + 1)) (gO hb) rfl) ?_
        refine pe_go (pc := 55) rfl (s_iload_n rfl) ?_
        refine pe_callE rfl (s_invV rfl (gA0 (oC_len hb) (mB_0 _ _ _)) rfl rfl) (k_out (oC_len hb) hS hp (And.left (by assumption)) (And.right (by assumption))) ?_
        rintro _ _ ⟨rfl, R4, hR4, hl4, hr4, rfl⟩
        refine pe_go (pc := 59) rfl (s_aload_n rfl) ?_
        refine pe_go (pc := 60) rfl (s_getf (v := .ref (b + 1)) (gO hb) rfl) ?_
        refine pe_go (pc := 63) rfl (s_iload_n rfl) ?_
        refine pe_go (pc := 64) rfl (s_iload_n rfl) ?_
        refine pe_go (pc := 65) rfl (s_iload_n rfl) ?_
        refine pe_callE rfl (s_invV rfl (gA0 (oC_len hb) (mB_0 _ _ _)) rfl rfl) (k_ins (oC_len hb) hR4 (p := p) (x := x) (y := y) hp (by unfold St.has; rw [hl4.2.2.1, bt_clr (by omega)]; simp) (by assumption) (fun q9 h9 s9 e9 => hS.look (by assumption) q9 h9 (by unfold St.has at s9; rw [hl4.2.2.1, bt_clr (by omega)] at s9; exact (Bool.and_eq_true _ _ ▸ s9).1) (by rw [← hl4.1, ← hl4.2.1]; exact e9))) ?_
        rintro _ _ ⟨rfl, R5, hR5, hl5, hr5, rfl⟩
        refine pe_go (pc := 69) rfl (s_iconst (z := 1) rfl) ?_
        exact pe_ret rfl s_ret1 (Or.inl ⟨⟨by assumption, by assumption, by assumption⟩, rfl, R4, R5, hR4, hl4, hr4, hl5, hr5, OB_push hS hR5 hLo hLl hMo hMl kp kr⟩)
      · skip
        refine pe_go rfl (s_icmp_eq_f (S.atP_sm x y) ⟨by decide, by decide⟩ c3) ?_
        refine pe_go (pc := 38) rfl (s_iconst (z := 0) rfl) ?_
        exact pe_ret rfl s_ret0 (Or.inr ⟨(by rintro ⟨z1, z2, z3⟩; first | exact absurd z1 (by assumption) | exact absurd z2 (by assumption) | exact absurd z3 (by assumption)), rfl, OB_at hS hLo hLl hMo hMl kp kr⟩)
    · skip
      refine pe_go rfl (s_ifeq_false (decide_eq_false b2)) ?_
      refine pe_go (pc := 38) rfl (s_iconst (z := 0) rfl) ?_
      exact pe_ret rfl s_ret0 (Or.inr ⟨(by rintro ⟨z1, z2, z3⟩; first | exact absurd z1 (by assumption) | exact absurd z2 (by assumption) | exact absurd z3 (by assumption)), rfl, OB_at hS hLo hLl hMo hMl kp kr⟩)
  · skip
    refine pe_go rfl (s_ifeq_false (decide_eq_false b1)) ?_
    refine pe_go (pc := 38) rfl (s_iconst (z := 0) rfl) ?_
    exact pe_ret rfl s_ret0 (Or.inr ⟨(by rintro ⟨z1, z2, z3⟩; first | exact absurd z1 (by assumption) | exact absurd z2 (by assumption) | exact absurd z3 (by assumption)), rfl, OB_at hS hLo hLl hMo hMl kp kr⟩)
theorem o_fix {pre post : pW} {b : Nat} (hb : pre.length = b) {S : St} {L M : List St} {K : St} {w : pW} (hO : OB pre post b S L M K w) {a c : Nat} (ha : a < 40) (hc : c < 40) {E : Nat} (hE : S.ec = (E : Int)) (hE2 : E ≤ 113) : qC 90 [.ref b, .int (iI (a : Int)), .int (iI (c : Int))] w (fun r w' => ((S.sight a c E ∧ ¬ S.bound a c) ∧ r = some (.int (bI true)) ∧ ∃ R : St, (R.xs = S.xs ∧ R.ys = S.ys ∧ R.th = S.th ∧ ∀ x y : Nat, R.bound x y ↔ S.bound x y ∨ eU a c x y) ∧ S.rst R ∧ OB pre post b R (pshL S L) M K w') ∨ (¬ (S.sight a c E ∧ ¬ S.bound a c) ∧ r = some (.int (bI false)) ∧ OB pre post b S L M K w')) := by
  obtain ⟨hS, hLo, hLl, hMo, hMl, pn, pb, rn, rb, cl, kp, kr, rfl⟩ := hO
  refine pc_run (lv := [(0, .ref b), (1, .int (iI (a : Int))), (2, .int (iI (c : Int)))]) rfl ?_
  refine pe_go (pc := 0) rfl (s_aload_n rfl) ?_
  refine pe_go (pc := 1) rfl (s_getf (v := .ref (b + 1)) (gO hb) rfl) ?_
  refine pe_go (pc := 4) rfl (s_iload_n rfl) ?_
  refine pe_go (pc := 5) rfl (s_iload_n rfl) ?_
  refine pe_call rfl (s_invV rfl (gA0 (oC_len hb) (mB_0 _ _ _)) rfl rfl) (c_canFix (oC_len hb) S hE hE2 hS.I.CN.2 ha hc hS.B) ?_
  by_cases b1 : S.sight a c E ∧ ¬ S.bound a c
  · skip
    refine pe_go rfl (s_ifne_true (decide_eq_true b1)) ?_
    refine pe_go (pc := 14) rfl (s_aload_n rfl) ?_
    refine pe_go (pc := 15) rfl (s_getf (v := .ref (b + 1 + 34)) (gO hb) rfl) ?_
    refine pe_go (pc := 18) rfl (s_aload_n rfl) ?_
    refine pe_go (pc := 19) rfl (s_getf (v := .ref (b + 1)) (gO hb) rfl) ?_
    refine pe_call rfl (s_invV rfl (gA (oC_len hb) oX_P) rfl rfl) (c_push hb S (k := L.length) hLl) ?_
    refine pe_go (pc := 25) rfl (s_aload_n rfl) ?_
    refine pe_go (pc := 26) rfl (s_getf (v := .ref (b + 1)) (gO hb) rfl) ?_
    refine pe_go (pc := 29) rfl (s_iload_n rfl) ?_
    refine pe_go (pc := 30) rfl (s_iload_n rfl) ?_
    refine pe_callE rfl (s_invV rfl (gA0 (oC_len hb) (mB_0 _ _ _)) rfl rfl) (k_fix (oC_len hb) hS ha hc hE (And.left (by assumption))) ?_
    rintro _ _ ⟨rfl, R2, hR2, hl2, hr2, rfl⟩
    refine pe_go (pc := 34) rfl (s_iconst (z := 1) rfl) ?_
    exact pe_ret rfl s_ret1 (Or.inl ⟨by assumption, rfl, R2, hl2, hr2, OB_push hS hR2 hLo hLl hMo hMl kp kr⟩)
  · skip
    refine pe_go rfl (s_ifne_false (decide_eq_false b1)) ?_
    refine pe_go (pc := 12) rfl (s_iconst (z := 0) rfl) ?_
    exact pe_ret rfl s_ret0 (Or.inr ⟨by assumption, rfl, OB_at hS hLo hLl hMo hMl kp kr⟩)
theorem o_free {pre post : pW} {b : Nat} (hb : pre.length = b) {S : St} {L M : List St} {K : St} {w : pW} (hO : OB pre post b S L M K w) {a c : Nat} (ha : a < 40) (hc : c < 40) : qC 91 [.ref b, .int (iI (a : Int)), .int (iI (c : Int))] w (fun r w' => (((S.has a ∧ S.has c ∧ S.bound a c) ∧ (S.ap (a * 40 + c) ≠ -1 ∧ S.ap (c * 40 + a) ≠ -1)) ∧ r = some (.int (bI true)) ∧ ∃ R : St, (R.xs = S.xs ∧ R.ys = S.ys ∧ R.th = S.th ∧ ∀ x y : Nat, R.bound x y ↔ S.bound x y ∧ ¬ eU a c x y) ∧ S.rst R ∧ OB pre post b R (pshL S L) M K w') ∨ (¬ ((S.has a ∧ S.has c ∧ S.bound a c) ∧ (S.ap (a * 40 + c) ≠ -1 ∧ S.ap (c * 40 + a) ≠ -1)) ∧ r = some (.int (bI false)) ∧ OB pre post b S L M K w')) := by
  obtain ⟨hS, hLo, hLl, hMo, hMl, pn, pb, rn, rb, cl, kp, kr, rfl⟩ := hO
  refine pc_run (lv := [(0, .ref b), (1, .int (iI (a : Int))), (2, .int (iI (c : Int)))]) rfl ?_
  refine pe_go (pc := 0) rfl (s_aload_n rfl) ?_
  refine pe_go (pc := 1) rfl (s_getf (v := .ref (b + 1)) (gO hb) rfl) ?_
  refine pe_go (pc := 4) rfl (s_iload_n rfl) ?_
  refine pe_go (pc := 5) rfl (s_iload_n rfl) ?_
  refine pe_call rfl (s_invV rfl (gA0 (oC_len hb) (mB_0 _ _ _)) rfl rfl) (c_canFree (oC_len hb) S ha hc hS.I.A) ?_
  by_cases b1 : (S.has a ∧ S.has c ∧ S.bound a c) ∧ (S.ap (a * 40 + c) ≠ -1 ∧ S.ap (c * 40 + a) ≠ -1)
  · skip
    refine pe_go rfl (s_ifne_true (decide_eq_true b1)) ?_
    refine pe_go (pc := 14) rfl (s_aload_n rfl) ?_
    refine pe_go (pc := 15) rfl (s_getf (v := .ref (b + 1 + 34)) (gO hb) rfl) ?_
    refine pe_go (pc := 18) rfl (s_aload_n rfl) ?_
    refine pe_go (pc := 19) rfl (s_getf (v := .ref (b + 1)) (gO hb) rfl) ?_
    refine pe_call rfl (s_invV rfl (gA (oC_len hb) oX_P) rfl rfl) (c_push hb S (k := L.length) hLl) ?_
    refine pe_go (pc := 25) rfl (s_aload_n rfl) ?_
    refine pe_go (pc := 26) rfl (s_getf (v := .ref (b + 1)) (gO hb) rfl) ?_
    refine pe_go (pc := 29) rfl (s_iload_n rfl) ?_
    refine pe_go (pc := 30) rfl (s_iload_n rfl) ?_
    refine pe_callE rfl (s_invV rfl (gA0 (oC_len hb) (mB_0 _ _ _)) rfl rfl) (k_free (oC_len hb) hS ha hc (And.right (And.right (And.left (by assumption)))) (And.right (by assumption))) ?_
    rintro _ _ ⟨rfl, R2, hR2, hl2, hr2, rfl⟩
    refine pe_go (pc := 34) rfl (s_iconst (z := 1) rfl) ?_
    exact pe_ret rfl s_ret1 (Or.inl ⟨by assumption, rfl, R2, hl2, hr2, OB_push hS hR2 hLo hLl hMo hMl kp kr⟩)
  · skip
    refine pe_go rfl (s_ifne_false (decide_eq_false b1)) ?_
    refine pe_go (pc := 12) rfl (s_iconst (z := 0) rfl) ?_
    exact pe_ret rfl s_ret0 (Or.inr ⟨by assumption, rfl, OB_at hS hLo hLl hMo hMl kp kr⟩)
theorem St.Ok_hs {S : St} (h : S.Ok) {p : Nat} {z : Int} (h1 : -9999 ≤ z) (h2 : z ≤ 9999) : (S.u_hs (uZ S.hs p z)).Ok := by
  obtain ⟨r1, r2, r3, r4, r5⟩ := h.2.2.2.2
  refine St.Ok_same (hs := uZ S.hs p z) (hx := S.hx) (hy := S.hy) (hn := S.hn) (g := S.g) h ⟨r1, r2, r3, r4, fun q hq => ?_⟩
  show -9999 ≤ uZ S.hs p z q ∧ uZ S.hs p z q ≤ 9999
  unfold uZ
  split
  · exact ⟨h1, h2⟩
  · exact r5 q hq
theorem St.Ok_hole {S : St} (h : S.Ok) {f1 f2 : Nat → Int} {n : Int} (h1 : 0 ≤ n) (h2 : n ≤ 8) : (((S.u_hx f1).u_hy f2).u_hn n).Ok := by
  obtain ⟨r1, r2, r3, r4, r5⟩ := h.2.2.2.2
  exact St.Ok_same (hs := S.hs) (hx := f1) (hy := f2) (hn := n) (g := S.g) h ⟨⟨h1, h2⟩, r2, r3, r4, r5⟩
theorem St.Ok_hn {S : St} (h : S.Ok) {n : Int} (h1 : 0 ≤ n) (h2 : n ≤ 8) : (S.u_hn n).Ok := by
  obtain ⟨r1, r2, r3, r4, r5⟩ := h.2.2.2.2
  exact St.Ok_same (hs := S.hs) (hx := S.hx) (hy := S.hy) (hn := n) (g := S.g) h ⟨⟨h1, h2⟩, r2, r3, r4, r5⟩
theorem St.Ok_g {S : St} (h : S.Ok) {n : Int} (h1 : 0 ≤ n) (h2 : n < 30047) : (S.u_g n).Ok := by
  obtain ⟨r1, r2, r3, r4, r5⟩ := h.2.2.2.2
  exact St.Ok_same (hs := S.hs) (hx := S.hx) (hy := S.hy) (hn := S.hn) (g := n) h ⟨r1, ⟨h1, h2⟩, r3, r4, r5⟩
theorem o_height {pre post : pW} {b : Nat} (hb : pre.length = b) {S : St} {L M : List St} {K : St} {w : pW} (hO : OB pre post b S L M K w) {p : Nat} {h : Int} (hp : p < 40) (hh : sm h) : qC 93 [.ref b, .int (iI (p : Int)), .int (iI h)] w (fun r w' => ((S.has p ∧ -9999 ≤ h ∧ h ≤ 9999) ∧ r = some (.int (bI true)) ∧ OB pre post b (S.u_hs (uZ S.hs p h)) (pshL S L) M K w') ∨ (¬ (S.has p ∧ -9999 ≤ h ∧ h ≤ 9999) ∧ r = some (.int (bI false)) ∧ OB pre post b S L M K w')) := by
  obtain ⟨hS, hLo, hLl, hMo, hMl, pn, pb, rn, rb, cl, kp, kr, rfl⟩ := hO
  refine pc_run (lv := [(0, .ref b), (1, .int (iI (p : Int))), (2, .int (iI h))]) rfl ?_
  refine pe_go (pc := 0) rfl (s_aload_n rfl) ?_
  refine pe_go (pc := 1) rfl (s_getf (v := .ref (b + 1)) (gO hb) rfl) ?_
  refine pe_go (pc := 4) rfl (s_getf (v := .ref (b + 1 + 1)) (gA0 (oC_len hb) (mB_0 _ _ _)) rfl) ?_
  refine pe_go (pc := 7) rfl (s_iload_n rfl) ?_
  refine pe_call rfl (s_invV rfl (gA (oC_len hb) (mB_1 _ _ _)) rfl rfl) (c_has (oC_len hb) S hp) ?_
  by_cases b1 : S.has p
  · skip
    refine pe_go rfl (s_ifeq_true (decide_eq_true b1)) ?_
    refine pe_go (pc := 14) rfl (s_iload_n rfl) ?_
    refine pe_go (pc := 15) rfl (s_sipush (z := -9999) rfl) ?_
    by_cases c2 : h < (-9999)
    · skip
      refine pe_go rfl (s_icmp_lt_t ⟨by omega, by omega⟩ ⟨by decide, by decide⟩ c2) ?_
      refine pe_go (pc := 28) rfl (s_iconst (z := 0) rfl) ?_
      exact pe_ret rfl s_ret0 (Or.inr ⟨(by rintro ⟨z1, z2, z3⟩; first | exact absurd z1 (by assumption) | omega), rfl, OB_at hS hLo hLl hMo hMl kp kr⟩)
    · skip
      refine pe_go rfl (s_icmp_lt_f ⟨by omega, by omega⟩ ⟨by decide, by decide⟩ c2) ?_
      refine pe_go (pc := 21) rfl (s_iload_n rfl) ?_
      refine pe_go (pc := 22) rfl (s_sipush (z := 9999) rfl) ?_
      by_cases c3 : h ≤ 9999
      · skip
        refine pe_go rfl (s_icmp_le_t ⟨by omega, by omega⟩ ⟨by decide, by decide⟩ c3) ?_
        refine pe_go (pc := 30) rfl (s_aload_n rfl) ?_
        refine pe_go (pc := 31) rfl (s_getf (v := .ref (b + 1 + 34)) (gO hb) rfl) ?_
        refine pe_go (pc := 34) rfl (s_aload_n rfl) ?_
        refine pe_go (pc := 35) rfl (s_getf (v := .ref (b + 1)) (gO hb) rfl) ?_
        refine pe_call rfl (s_invV rfl (gA (oC_len hb) oX_P) rfl rfl) (c_push hb S (k := L.length) hLl) ?_
        refine pe_go (pc := 41) rfl (s_aload_n rfl) ?_
        refine pe_go (pc := 42) rfl (s_getf (v := .ref (b + 1)) (gO hb) rfl) ?_
        refine pe_go (pc := 45) rfl (s_getf (v := .ref (b + 1 + 1)) (gA0 (oC_len hb) (mB_0 _ _ _)) rfl) ?_
        refine pe_go (pc := 48) rfl (s_getf (v := .ref (b + 1 + 4)) (gA (oC_len hb) (mB_1 _ _ _)) rfl) ?_
        refine pe_go (pc := 51) rfl (s_iload_n rfl) ?_
        refine pe_go (pc := 52) rfl (s_iload_n rfl) ?_
        refine pe_go (pc := 53) rfl (s_iast (n := 40) (f := S.hs) (w' := (pre ++ oC (b + 1)) ++ (mB (b + 1) (S.u_hs (uZ S.hs p h)) ++ (oP (b + 1) (S.pshN L.length pn) (S.pshB L.length pb) (pshC L.length : Int) rn rb (M.length : Int) cl ++ post))) (gA (oC_len hb) (mB_hs _ _ _)) (k := p) (by omega) (by omega) (by decide) (gS (oC_len hb) (mB_s_hs _ _ _ _))) ?_
        refine pe_go (pc := 54) rfl (s_iconst (z := 1) rfl) ?_
        exact pe_ret rfl s_ret1 (Or.inl ⟨⟨by assumption, by omega, by omega⟩, rfl, OB_push hS (St.Ok_hs hS (by omega) (by omega)) hLo hLl hMo hMl kp kr⟩)
      · skip
        refine pe_go rfl (s_icmp_le_f ⟨by omega, by omega⟩ ⟨by decide, by decide⟩ c3) ?_
        refine pe_go (pc := 28) rfl (s_iconst (z := 0) rfl) ?_
        exact pe_ret rfl s_ret0 (Or.inr ⟨(by rintro ⟨z1, z2, z3⟩; first | exact absurd z1 (by assumption) | omega), rfl, OB_at hS hLo hLl hMo hMl kp kr⟩)
  · skip
    refine pe_go rfl (s_ifeq_false (decide_eq_false b1)) ?_
    refine pe_go (pc := 28) rfl (s_iconst (z := 0) rfl) ?_
    exact pe_ret rfl s_ret0 (Or.inr ⟨(by rintro ⟨z1, z2, z3⟩; first | exact absurd z1 (by assumption) | omega), rfl, OB_at hS hLo hLl hMo hMl kp kr⟩)
theorem o_hole {pre post : pW} {b : Nat} (hb : pre.length = b) {S : St} {L M : List St} {K : St} {w : pW} (hO : OB pre post b S L M K w) {x y : Int} (hx : sm x) (hy : sm y) : qC 98 [.ref b, .int (iI x), .int (iI y)] w (fun r w' => ((inSq x y ∧ S.hn < 8) ∧ r = some (.int (iI (S.hn + 1))) ∧ OB pre post b (((S.u_hx (uZ S.hx S.hn.toNat x)).u_hy (uZ S.hy S.hn.toNat y)).u_hn (S.hn + 1)) (pshL S L) M K w') ∨ (¬ (inSq x y ∧ S.hn < 8) ∧ r = some (.int (iI (-1))) ∧ OB pre post b S L M K w')) := by
  obtain ⟨hS, hLo, hLl, hMo, hMl, pn, pb, rn, rb, cl, kp, kr, rfl⟩ := hO
  obtain ⟨hn1, hn2⟩ := hS.2.2.2.2.1
  refine pc_run (lv := [(0, .ref b), (1, .int (iI x)), (2, .int (iI y))]) rfl ?_
  refine pe_go (pc := 0) rfl (s_aload_n rfl) ?_
  refine pe_go (pc := 1) rfl (s_getf (v := .ref (b + 1)) (gO hb) rfl) ?_
  refine pe_go (pc := 4) rfl (s_getf (v := .ref (b + 1 + 1)) (gA0 (oC_len hb) (mB_0 _ _ _)) rfl) ?_
  refine pe_go (pc := 7) rfl (s_astore_n (lv' := [(3, .ref (b + 1 + 1)), (0, .ref b), (1, .int (iI x)), (2, .int (iI y))]) rfl) ?_
  refine pe_go (pc := 8) rfl (s_iload_n rfl) ?_
  refine pe_go (pc := 9) rfl (s_iload_n rfl) ?_
  refine pe_call rfl (s_invS rfl rfl rfl) (c_inSq hx hy) ?_
  by_cases b1 : inSq x y
  · skip
    refine pe_go rfl (s_ifeq_true (decide_eq_true b1)) ?_
    refine pe_go (pc := 16) rfl (s_aload_n rfl) ?_
    refine pe_go (pc := 17) rfl (s_getf (v := .int (iI S.hn)) (gA (oC_len hb) (mB_1 _ _ _)) rfl) ?_
    refine pe_go (pc := 20) rfl (s_bipush (z := 8) rfl) ?_
    by_cases c2 : S.hn < 8
    · skip
      refine pe_go rfl (s_icmp_lt_t ⟨by omega, by omega⟩ ⟨by decide, by decide⟩ c2) ?_
      refine pe_go (pc := 27) rfl (s_aload_n rfl) ?_
      refine pe_go (pc := 28) rfl (s_getf (v := .ref (b + 1 + 34)) (gO hb) rfl) ?_
      refine pe_go (pc := 31) rfl (s_aload_n rfl) ?_
      refine pe_go (pc := 32) rfl (s_getf (v := .ref (b + 1)) (gO hb) rfl) ?_
      refine pe_call rfl (s_invV rfl (gA (oC_len hb) oX_P) rfl rfl) (c_push hb S (k := L.length) hLl) ?_
      refine pe_go (pc := 38) rfl (s_aload_n rfl) ?_
      refine pe_go (pc := 39) rfl (s_getf (v := .ref (b + 1 + 6)) (gA (oC_len hb) (mB_1 _ _ _)) rfl) ?_
      refine pe_go (pc := 42) rfl (s_aload_n rfl) ?_
      refine pe_go (pc := 43) rfl (s_getf (v := .int (iI S.hn)) (gA (oC_len hb) (mB_1 _ _ _)) rfl) ?_
      refine pe_go (pc := 46) rfl (s_iload_n rfl) ?_
      refine pe_go (pc := 47) rfl (s_iast (n := 8) (f := S.hx) (w' := (pre ++ oC (b + 1)) ++ (mB (b + 1) (S.u_hx (uZ S.hx S.hn.toNat x)) ++ (oP (b + 1) (S.pshN L.length pn) (S.pshB L.length pb) (pshC L.length : Int) rn rb (M.length : Int) cl ++ post))) (gA (oC_len hb) (mB_hx _ _ _)) (k := S.hn.toNat) (by omega) (by omega) (by decide) (gS (oC_len hb) (mB_s_hx _ _ _ _))) ?_
      refine pe_go (pc := 48) rfl (s_aload_n rfl) ?_
      refine pe_go (pc := 49) rfl (s_getf (v := .ref (b + 1 + 7)) (gA (oC_len hb) (mB_1 _ _ _)) rfl) ?_
      refine pe_go (pc := 52) rfl (s_aload_n rfl) ?_
      refine pe_go (pc := 53) rfl (s_getf (v := .int (iI S.hn)) (gA (oC_len hb) (mB_1 _ _ _)) rfl) ?_
      refine pe_go (pc := 56) rfl (s_iload_n rfl) ?_
      refine pe_go (pc := 57) rfl (s_iast (n := 8) (f := S.hy) (w' := (pre ++ oC (b + 1)) ++ (mB (b + 1) ((S.u_hx (uZ S.hx S.hn.toNat x)).u_hy (uZ S.hy S.hn.toNat y)) ++ (oP (b + 1) (S.pshN L.length pn) (S.pshB L.length pb) (pshC L.length : Int) rn rb (M.length : Int) cl ++ post))) (gA (oC_len hb) (mB_hy _ _ _)) (k := S.hn.toNat) (by omega) (by omega) (by decide) (gS (oC_len hb) (mB_s_hy _ _ _ _))) ?_
      refine pe_go (pc := 58) rfl (s_aload_n rfl) ?_
      refine pe_go (pc := 59) rfl (s_dup rfl) ?_
      refine pe_go (pc := 60) rfl (s_getf (v := .int (iI S.hn)) (gA (oC_len hb) (mB_1 _ _ _)) rfl) ?_
      refine pe_go (pc := 63) rfl (s_iconst (z := 1) rfl) ?_
      refine pe_go (pc := 64) rfl s_iadd ?_
      refine pe_go (pc := 65) rfl (s_putf (w' := (pre ++ oC (b + 1)) ++ (mB (b + 1) (((S.u_hx (uZ S.hx S.hn.toNat x)).u_hy (uZ S.hy S.hn.toNat y)).u_hn (S.hn + 1)) ++ (oP (b + 1) (S.pshN L.length pn) (S.pshB L.length pb) (pshC L.length : Int) rn rb (M.length : Int) cl ++ post))) (gA (oC_len hb) (mB_1 _ _ _)) (Nat.le_of_ble_eq_true rfl) rfl (gS (oC_len hb) (mB_s_hn _ _ _ _))) ?_
      refine pe_go (pc := 68) rfl (s_aload_n rfl) ?_
      refine pe_go (pc := 69) rfl (s_getf (v := .int (iI (S.hn + 1))) (gA (oC_len hb) (mB_1 _ _ _)) rfl) ?_
      exact pe_ret rfl s_reti (Or.inl ⟨⟨by assumption, by assumption⟩, rfl, OB_push hS (St.Ok_hole hS (by omega) (by omega)) hLo hLl hMo hMl kp kr⟩)
    · skip
      refine pe_go rfl (s_icmp_lt_f ⟨by omega, by omega⟩ ⟨by decide, by decide⟩ c2) ?_
      refine pe_go (pc := 25) rfl (s_iconst (z := -1) rfl) ?_
      exact pe_ret rfl s_reti (Or.inr ⟨(by rintro ⟨z1, z2⟩; first | exact absurd z1 (by assumption) | omega), rfl, OB_at hS hLo hLl hMo hMl kp kr⟩)
  · skip
    refine pe_go rfl (s_ifeq_false (decide_eq_false b1)) ?_
    refine pe_go (pc := 25) rfl (s_iconst (z := -1) rfl) ?_
    exact pe_ret rfl s_reti (Or.inr ⟨(by rintro ⟨z1, z2⟩; first | exact absurd z1 (by assumption) | omega), rfl, OB_at hS hLo hLl hMo hMl kp kr⟩)
theorem o_fill {pre post : pW} {b : Nat} (hb : pre.length = b) {S : St} {L M : List St} {K : St} {w : pW} (hO : OB pre post b S L M K w)  : qC 99 [.ref b] w (fun r w' => (0 < S.hn ∧ r = some (.int (iI (S.hn - 1))) ∧ OB pre post b (S.u_hn (S.hn - 1)) (pshL S L) M K w') ∨ (¬ 0 < S.hn ∧ r = some (.int (iI (-1))) ∧ OB pre post b S L M K w')) := by
  obtain ⟨hS, hLo, hLl, hMo, hMl, pn, pb, rn, rb, cl, kp, kr, rfl⟩ := hO
  obtain ⟨hn1, hn2⟩ := hS.2.2.2.2.1
  refine pc_run (lv := [(0, .ref b)]) rfl ?_
  refine pe_go (pc := 0) rfl (s_aload_n rfl) ?_
  refine pe_go (pc := 1) rfl (s_getf (v := .ref (b + 1)) (gO hb) rfl) ?_
  refine pe_go (pc := 4) rfl (s_getf (v := .ref (b + 1 + 1)) (gA0 (oC_len hb) (mB_0 _ _ _)) rfl) ?_
  refine pe_go (pc := 7) rfl (s_getf (v := .int (iI S.hn)) (gA (oC_len hb) (mB_1 _ _ _)) rfl) ?_
  by_cases c1 : 0 < S.hn
  · skip
    refine pe_go rfl (s_if_gt_t ⟨by omega, by omega⟩ c1) ?_
    refine pe_go (pc := 15) rfl (s_aload_n rfl) ?_
    refine pe_go (pc := 16) rfl (s_getf (v := .ref (b + 1 + 34)) (gO hb) rfl) ?_
    refine pe_go (pc := 19) rfl (s_aload_n rfl) ?_
    refine pe_go (pc := 20) rfl (s_getf (v := .ref (b + 1)) (gO hb) rfl) ?_
    refine pe_call rfl (s_invV rfl (gA (oC_len hb) oX_P) rfl rfl) (c_push hb S (k := L.length) hLl) ?_
    refine pe_go (pc := 26) rfl (s_aload_n rfl) ?_
    refine pe_go (pc := 27) rfl (s_getf (v := .ref (b + 1)) (gO hb) rfl) ?_
    refine pe_go (pc := 30) rfl (s_getf (v := .ref (b + 1 + 1)) (gA0 (oC_len hb) (mB_0 _ _ _)) rfl) ?_
    refine pe_go (pc := 33) rfl (s_dup rfl) ?_
    refine pe_go (pc := 34) rfl (s_getf (v := .int (iI S.hn)) (gA (oC_len hb) (mB_1 _ _ _)) rfl) ?_
    refine pe_go (pc := 37) rfl (s_iconst (z := 1) rfl) ?_
    refine pe_go (pc := 38) rfl s_isub ?_
    refine pe_go (pc := 39) rfl (s_putf (w' := (pre ++ oC (b + 1)) ++ (mB (b + 1) (S.u_hn (S.hn - 1)) ++ (oP (b + 1) (S.pshN L.length pn) (S.pshB L.length pb) (pshC L.length : Int) rn rb (M.length : Int) cl ++ post))) (gA (oC_len hb) (mB_1 _ _ _)) (Nat.le_of_ble_eq_true rfl) rfl (gS (oC_len hb) (mB_s_hn _ _ _ _))) ?_
    refine pe_go (pc := 42) rfl (s_aload_n rfl) ?_
    refine pe_go (pc := 43) rfl (s_getf (v := .ref (b + 1)) (gO hb) rfl) ?_
    refine pe_go (pc := 46) rfl (s_getf (v := .ref (b + 1 + 1)) (gA0 (oC_len hb) (mB_0 _ _ _)) rfl) ?_
    refine pe_go (pc := 49) rfl (s_getf (v := .int (iI (S.hn - 1))) (gA (oC_len hb) (mB_1 _ _ _)) rfl) ?_
    exact pe_ret rfl s_reti (Or.inl ⟨by assumption, rfl, OB_push hS (St.Ok_hn hS (by omega) (by omega)) hLo hLl hMo hMl kp kr⟩)
  · skip
    refine pe_go rfl (s_if_gt_f ⟨by omega, by omega⟩ c1) ?_
    refine pe_go (pc := 13) rfl (s_iconst (z := -1) rfl) ?_
    exact pe_ret rfl s_reti (Or.inr ⟨by assumption, rfl, OB_at hS hLo hLl hMo hMl kp kr⟩)
theorem o_tell {pre post : pW} {b : Nat} (hb : pre.length = b) {S : St} {L M : List St} {K : St} {w : pW} (hO : OB pre post b S L M K w) {x : Int} (hx : sm x) : qC 100 [.ref b, .int (iI x)] w (fun r w' => ((0 ≤ x ∧ x < 30047) ∧ r = some (.int (bI true)) ∧ OB pre post b (S.u_g x) L M K w') ∨ (¬ (0 ≤ x ∧ x < 30047) ∧ r = some (.int (bI false)) ∧ OB pre post b S L M K w')) := by
  obtain ⟨hS, hLo, hLl, hMo, hMl, pn, pb, rn, rb, cl, kp, kr, rfl⟩ := hO
  refine pc_run (lv := [(0, .ref b), (1, .int (iI x))]) rfl ?_
  refine pe_go (pc := 0) rfl (s_iload_n rfl) ?_
  by_cases c1 : x < 0
  · skip
    refine pe_go rfl (s_if_lt_t ⟨by omega, by omega⟩ c1) ?_
    refine pe_go (pc := 11) rfl (s_iconst (z := 0) rfl) ?_
    exact pe_ret rfl s_ret0 (Or.inr ⟨(by rintro ⟨z1, z2⟩; omega), rfl, OB_at hS hLo hLl hMo hMl kp kr⟩)
  · skip
    refine pe_go rfl (s_if_lt_f ⟨by omega, by omega⟩ c1) ?_
    refine pe_go (pc := 4) rfl (s_iload_n rfl) ?_
    refine pe_go (pc := 5) rfl (s_sipush (z := 30047) rfl) ?_
    by_cases c2 : x < 30047
    · skip
      refine pe_go rfl (s_icmp_lt_t ⟨by omega, by omega⟩ ⟨by decide, by decide⟩ c2) ?_
      refine pe_go (pc := 13) rfl (s_aload_n rfl) ?_
      refine pe_go (pc := 14) rfl (s_getf (v := .ref (b + 1)) (gO hb) rfl) ?_
      refine pe_go (pc := 17) rfl (s_getf (v := .ref (b + 1 + 1)) (gA0 (oC_len hb) (mB_0 _ _ _)) rfl) ?_
      refine pe_go (pc := 20) rfl (s_iload_n rfl) ?_
      refine pe_go (pc := 21) rfl (s_putf (w' := (pre ++ oC (b + 1)) ++ (mB (b + 1) (S.u_g x) ++ (oP (b + 1) pn pb (L.length : Int) rn rb (M.length : Int) cl ++ post))) (gA (oC_len hb) (mB_1 _ _ _)) (Nat.le_of_ble_eq_true rfl) rfl (gS (oC_len hb) (mB_s_g _ _ _ _))) ?_
      refine pe_go (pc := 24) rfl (s_iconst (z := 1) rfl) ?_
      exact pe_ret rfl s_ret1 (Or.inl ⟨⟨by omega, by omega⟩, rfl, OB_at (St.Ok_g hS (by omega) (by omega)) hLo hLl hMo hMl kp kr⟩)
    · skip
      refine pe_go rfl (s_icmp_lt_f ⟨by omega, by omega⟩ ⟨by decide, by decide⟩ c2) ?_
      refine pe_go (pc := 11) rfl (s_iconst (z := 0) rfl) ?_
      exact pe_ret rfl s_ret0 (Or.inr ⟨(by rintro ⟨z1, z2⟩; omega), rfl, OB_at hS hLo hLl hMo hMl kp kr⟩)
