/-! STEPS TAKEN BACK, THE IMAGE, what is asked of an object. By hand, rows laid by program (wip/p63/wk.py, wo.py, mk86.py). -/
theorem s_tabK {pc t t1 : Nat} {ts : List Nat} {d lo hi : Int} {offs : Array Int} {lv : pLv} {st : List Value} {w : pW} {z : Int} (hz : sm z) (h1 : lo ≤ z) (h2 : z ≤ hi) (ht : ts[(z - lo).toNat]? = some t1) : pS1 (.tableswitch d lo hi offs) pc (t :: ts) lv (.int (iI z) :: st) w = some (.inl (t1, lv, st, w)) := by
  show pTab lo hi (t :: ts) lv (.int (iI z) :: st) w = _
  unfold pTab
  simp only [iI_toInt hz, ht]
  rw [decide_eq_false (show ¬ z < lo by omega), decide_eq_false (show ¬ hi < z by omega)]
  rfl
theorem s_tabD {pc t : Nat} {ts : List Nat} {d lo hi : Int} {offs : Array Int} {lv : pLv} {st : List Value} {w : pW} {z : Int} (hz : sm z) (h1 : hi < z) : pS1 (.tableswitch d lo hi offs) pc (t :: ts) lv (.int (iI z) :: st) w = some (.inl (t, lv, st, w)) := by
  show pTab lo hi (t :: ts) lv (.int (iI z) :: st) w = _
  unfold pTab
  simp only [iI_toInt hz]
  rw [decide_eq_true h1, Bool.or_true]
  rfl
/-- told alike: what the rows of the past keep -/
def St.alike (S T : St) : Prop := (∀ p : Nat, p < 40 → T.xs p = S.xs p ∧ T.ys p = S.ys p ∧ T.hs p = S.hs p ∧ T.fx p = S.fx p) ∧ T.th = S.th ∧ T.hn = S.hn ∧ T.g = S.g
theorem St.tk_alike {S K : St} {f : Nat → Int} {g : Nat → Int64} {k : Nat} (hK : keptAt f g k K) : K.alike (S.tk k f g) := by
  obtain ⟨h1, h2, h3, h4, h5, h6, h7⟩ := hK
  refine ⟨fun j hj => ⟨?_, ?_, ?_, ?_⟩, h3, h4, h5⟩
  · show zcpy f S.xs (361 * k) 0 40 j = _
    rw [zcpy_in (by omega) (by omega), ← (h1 j hj).1]; congr 1
  · show zcpy f S.ys (361 * k + 40) 0 40 j = _
    rw [zcpy_in (by omega) (by omega), ← (h1 j hj).2.1]; congr 1
  · show zcpy f S.hs (361 * k + 80) 0 40 j = _
    rw [zcpy_in (by omega) (by omega), ← (h1 j hj).2.2.1]; congr 1
  · show zcpy g S.fx (41 * k) 0 40 j = _
    rw [zcpy_in (by omega) (by omega), ← (h1 j hj).2.2.2]; congr 1
theorem St.give_pre {S K : St} {f : Nat → Int} {g : Nat → Int64} {k : Nat} (hK : keptAt f g k K) (kO : K.Ok) (sO : S.Ok) : ∃ T : Nat, f (361 * k + 138) = (T : Int) ∧ T ≤ 74 ∧ (∀ j : Nat, j < 3 * T → 0 ≤ f (361 * k + 139 + j) ∧ f (361 * k + 139 + j) < 40) ∧ (S.tk k f g).inB ∧ (S.okC ∧ S.okN) ∧ (S.tk k f g).layL (fun j => f (361 * k + 139 + j)) T := by
  obtain ⟨T, hT, hT2⟩ := kO.T
  have h6 : f (361 * k + 138) = (T : Int) := by rw [← hT]; exact hK.2.2.2.2.2.1
  refine ⟨T, h6, hT2, fun j hj => ?_, fun j hj => ?_, sO.I.CN, fun ap0 li h0 hli => ?_⟩
  · rw [hK.2.2.2.2.2.2 j (by omega)]
    exact kO.I.CN.1 j (by omega)
  · obtain ⟨a1, a2, -⟩ := (St.tk_alike (S := S) hK).1 j hj
    rw [a1, a2]
    exact kO.B j hj
  · obtain ⟨g1, -⟩ := St.give_ok hK kO sO h6 h0 hli
    exact St.Msh_okL g1.1 g1.2.2.2.2.2.1
theorem St.give_post {pre post : pW} {m : Nat} {S K : St} {f : Nat → Int} {g : Nat → Int64} {k T : Nat} (hK : keptAt f g k K) (kO : K.Ok) (sO : S.Ok) (hT : f (361 * k + 138) = (T : Int)) {r : Option Value} {w' : pW} (h : layW pre post m (S.tk k f g) (fun j => f (361 * k + 139 + j)) T r w') : r = none ∧ ∃ R : St, R.Ok ∧ K.alike R ∧ w' = pre ++ (mB m R ++ post) := by
  obtain ⟨ap0, li, h0, hli, rfl, ow, co, en, ne, tn, ec, hE, hT9, rfl⟩ := h
  obtain ⟨g1, g2, g3⟩ := St.give_ok hK kO sO hT h0 hli
  refine ⟨rfl, _, St.Ok_of g1 g2 g3 hE hT9, ?_, rfl⟩
  obtain ⟨ap, e⟩ := layR_O (fun j => f (361 * k + 139 + j)) T ((S.tk k f g).u_ap ap0)
  rw [e]
  exact St.tk_alike hK
theorem keeps_last {f : Nat → Int} {g : Nat → Int64} {L : List St} {K : St} (h : keeps f g (L ++ [K])) : keptAt f g L.length K := h _ _ (by rw [List.getElem?_append_right (Nat.le_refl _), Nat.sub_self]; rfl)
theorem c_points {pre post : pW} {m : Nat} (hm : pre.length = m) (S : St)  : pRun 65 [.ref (m + 1)] (pre ++ (mB m S ++ post)) (some (.int (iI (bcnt S.th : Int)))) (pre ++ (mB m S ++ post)) := by
  refine qx_run ?_
  refine pc_run (lv := [(0, .ref (m + 1))]) rfl ?_
  refine pe_go (pc := 0) rfl (s_aload_n rfl) ?_
  refine pe_go (pc := 1) rfl (s_getf (v := .long S.th) (gA hm (mB_1 _ _ _)) rfl) ?_
  refine pe_call rfl (s_invS rfl rfl rfl) (c_bitCount S.th _) ?_
  exact pe_ret rfl s_reti ⟨rfl, rfl⟩
theorem o_steps {pre post : pW} {b : Nat} (hb : pre.length = b) {S : St} {L M : List St} {K : St} {w : pW} (hO : OB pre post b S L M K w)  : pRun 102 [.ref b] w (some (.int (iI (L.length : Int)))) w := by
  obtain ⟨hS, hLo, hLl, hMo, hMl, pn, pb, rn, rb, cl, kp, kr, rfl⟩ := hO
  refine qx_run ?_
  refine pc_run (lv := [(0, .ref b)]) rfl ?_
  refine pe_go (pc := 0) rfl (s_aload_n rfl) ?_
  refine pe_go (pc := 1) rfl (s_getf (v := .ref (b + 1 + 34)) (gO hb) rfl) ?_
  refine pe_go (pc := 4) rfl (s_getf (v := .int (iI (L.length : Int))) (gA (oC_len hb) oX_P) rfl) ?_
  exact pe_ret rfl s_reti ⟨rfl, rfl⟩
theorem o_undoNo {pre post : pW} {b : Nat} (hb : pre.length = b) {S : St} {M : List St} {K : St} {w : pW} (hO : OB pre post b S [] M K w) : pRun 101 [.ref b] w (some (.int (iI (-1)))) w := by
  obtain ⟨hS, hLo, hLl, hMo, hMl, pn, pb, rn, rb, cl, kp, kr, rfl⟩ := hO
  refine qx_run ?_
  refine pc_run (lv := [(0, .ref b)]) rfl ?_
  refine pe_go (pc := 0) rfl (s_aload_n rfl) ?_
  refine pe_go (pc := 1) rfl (s_getf (v := .ref (b + 1 + 34)) (gO hb) rfl) ?_
  refine pe_go (pc := 4) rfl (s_aload_n rfl) ?_
  refine pe_go (pc := 5) rfl (s_getf (v := .ref (b + 1)) (gO hb) rfl) ?_
  refine pe_call rfl (s_invV rfl (gA (oC_len hb) oX_P) rfl rfl) (c_popNo hb S) ?_
  refine pe_go rfl (s_ifeq_false rfl) ?_
  refine pe_go (pc := 24) rfl (s_iconst (z := -1) rfl) ?_
  exact pe_ret rfl s_reti ⟨rfl, rfl⟩
theorem o_undo {pre post : pW} {b : Nat} (hb : pre.length = b) {S J : St} {L M : List St} {K : St} {w : pW} (hO : OB pre post b S (L ++ [J]) M K w) : qC 101 [.ref b] w (fun r w' => r = some (.int (iI (L.length : Int))) ∧ ∃ R : St, J.alike R ∧ OB pre post b R L M K w') := by
  obtain ⟨hS, hLo, hLl, hMo, hMl, pn, pb, rn, rb, cl, kp, kr, rfl⟩ := hO
  have hlen : (L ++ [J]).length = L.length + 1 := by simp
  rw [hlen] at hLl ⊢
  have hKJ := keeps_last kp
  have kO := hLo J (by simp)
  obtain ⟨T, hT, hT2, hb9, hB, hCN, hL9⟩ := St.give_pre hKJ kO hS
  refine pc_run (lv := [(0, .ref b)]) rfl ?_
  refine pe_go (pc := 0) rfl (s_aload_n rfl) ?_
  refine pe_go (pc := 1) rfl (s_getf (v := .ref (b + 1 + 34)) (gO hb) rfl) ?_
  refine pe_go (pc := 4) rfl (s_aload_n rfl) ?_
  refine pe_go (pc := 5) rfl (s_getf (v := .ref (b + 1)) (gO hb) rfl) ?_
  refine pe_callE rfl (s_invV rfl (gA (oC_len hb) oX_P) rfl rfl) (c_pop hb S (k := L.length) (by omega) hT hT2 hb9 hB hCN hL9) ?_
  rintro _ _ ⟨rfl, hW1⟩
  obtain ⟨-, R1, hR1, hA1, rfl⟩ := St.give_post hKJ kO hS hT hW1
  refine pe_go rfl (s_ifeq_true rfl) ?_
  refine pe_go (pc := 14) rfl (s_aload_n rfl) ?_
  refine pe_go (pc := 15) rfl (s_getf (v := .ref (b + 1 + 34)) (gO hb) rfl) ?_
  refine pe_go (pc := 18) rfl (s_getf (v := .int (iI (L.length : Int))) (gA (oC_len hb) oX_P) rfl) ?_
  refine pe_go (pc := 21) rfl s_goto ?_
  exact pe_ret rfl s_reti ⟨rfl, R1, hA1, OB_at hR1 (fun z hz => hLo z (by simp [hz])) (by omega) hMo hMl (keeps_pre kp) kr⟩
theorem o_image {pre post : pW} {b : Nat} (hb : pre.length = b) {S : St} {L M : List St} {K : St} {w : pW} (hO : OB pre post b S L M K w)  : qC 103 [.ref b] w (fun r w' => r = some (.int (iI (bcnt S.th : Int))) ∧ OB pre post b S L L S w') := by
  obtain ⟨hS, hLo, hLl, hMo, hMl, pn, pb, rn, rb, cl, kp, kr, rfl⟩ := hO
  refine pc_run (lv := [(0, .ref b)]) rfl ?_
  refine pe_go (pc := 0) rfl (s_aload_n rfl) ?_
  refine pe_go (pc := 1) rfl (s_getf (v := .ref (b + 1 + 37)) (gO hb) rfl) ?_
  refine pe_go (pc := 4) rfl (s_aload_n rfl) ?_
  refine pe_go (pc := 5) rfl (s_getf (v := .ref (b + 1 + 34)) (gO hb) rfl) ?_
  refine pe_call rfl (s_invV rfl (gA (oC_len hb) oX_Q) rfl rfl) (c_copyQP hb S (k := L.length) hLl) ?_
  refine pe_go (pc := 11) rfl (s_aload_n rfl) ?_
  refine pe_go (pc := 12) rfl (s_getf (v := .ref (b + 1 + 37)) (gO hb) rfl) ?_
  refine pe_go (pc := 15) rfl (s_aload_n rfl) ?_
  refine pe_go (pc := 16) rfl (s_getf (v := .ref (b + 1)) (gO hb) rfl) ?_
  refine pe_call rfl (s_invV rfl (gA (oC_len hb) oX_Q) rfl rfl) (c_keepTopQ hb S (k := L.length) hLl) ?_
  refine pe_go (pc := 22) rfl (s_aload_n rfl) ?_
  refine pe_go (pc := 23) rfl (s_getf (v := .ref (b + 1)) (gO hb) rfl) ?_
  refine pe_go (pc := 26) rfl (s_getf (v := .ref (b + 1 + 1)) (gA0 (oC_len hb) (mB_0 _ _ _)) rfl) ?_
  refine pe_call rfl (s_invV rfl (gA (oC_len hb) (mB_1 _ _ _)) rfl rfl) (c_points (oC_len hb) S) ?_
  exact pe_ret rfl s_reti ⟨rfl, OB_at hS hLo hLl (by intro z hz; rw [List.mem_append, List.mem_singleton] at hz; exact hz.elim (hLo z) (fun e => e ▸ hS)) hLl kp (keeps_top (keeps_copy kp) S)⟩
theorem o_back {pre post : pW} {b : Nat} (hb : pre.length = b) {S : St} {L M : List St} {K : St} {w : pW} (hO : OB pre post b S L M K w)  : qC 104 [.ref b] w (fun r w' => ∃ R : St, K.alike R ∧ r = some (.int (iI (bcnt R.th : Int))) ∧ OB pre post b R M M K w') := by
  obtain ⟨hS, hLo, hLl, hMo, hMl, pn, pb, rn, rb, cl, kp, kr, rfl⟩ := hO
  have hKJ := keeps_last kr
  have kO := hMo K (by simp)
  obtain ⟨T, hT, hT2, hb9, hB, hCN, hL9⟩ := St.give_pre hKJ kO hS
  refine pc_run (lv := [(0, .ref b)]) rfl ?_
  refine pe_go (pc := 0) rfl (s_aload_n rfl) ?_
  refine pe_go (pc := 1) rfl (s_getf (v := .ref (b + 1 + 37)) (gO hb) rfl) ?_
  refine pe_go (pc := 4) rfl (s_aload_n rfl) ?_
  refine pe_go (pc := 5) rfl (s_getf (v := .ref (b + 1)) (gO hb) rfl) ?_
  refine pe_callE rfl (s_invV rfl (gA (oC_len hb) oX_Q) rfl rfl) (c_giveTopQ hb S (k := M.length) hMl hT hT2 hb9 hB hCN hL9) ?_
  rintro _ _ hW1
  obtain ⟨rfl, R1, hR1, hA1, rfl⟩ := St.give_post hKJ kO hS hT hW1
  refine pe_go (pc := 11) rfl (s_aload_n rfl) ?_
  refine pe_go (pc := 12) rfl (s_getf (v := .ref (b + 1 + 34)) (gO hb) rfl) ?_
  refine pe_go (pc := 15) rfl (s_aload_n rfl) ?_
  refine pe_go (pc := 16) rfl (s_getf (v := .ref (b + 1 + 37)) (gO hb) rfl) ?_
  refine pe_call rfl (s_invV rfl (gA (oC_len hb) oX_P) rfl rfl) (c_copyPQ hb R1 (k := M.length) hMl) ?_
  refine pe_go (pc := 22) rfl (s_aload_n rfl) ?_
  refine pe_go (pc := 23) rfl (s_getf (v := .ref (b + 1)) (gO hb) rfl) ?_
  refine pe_go (pc := 26) rfl (s_getf (v := .ref (b + 1 + 1)) (gA0 (oC_len hb) (mB_0 _ _ _)) rfl) ?_
  refine pe_call rfl (s_invV rfl (gA (oC_len hb) (mB_1 _ _ _)) rfl rfl) (c_points (oC_len hb) R1) ?_
  exact pe_ret rfl s_reti ⟨R1, hA1, rfl, OB_at hR1 (fun z hz => hMo z (by simp [hz])) hMl hMo hMl (keeps_copy (keeps_pre kr)) kr⟩
theorem o_at {pre post : pW} {b : Nat} (hb : pre.length = b) {S : St} {L M : List St} {K : St} {w : pW} (hO : OB pre post b S L M K w) {x y : Int} (hx : sm x) (hy : sm y) : pRun 108 [.ref b, .int (iI x), .int (iI y)] w (some (.int (iI (S.atP x y)))) w := by
  obtain ⟨hS, hLo, hLl, hMo, hMl, pn, pb, rn, rb, cl, kp, kr, rfl⟩ := hO
  refine qx_run ?_
  refine pc_run (lv := [(0, .ref b), (1, .int (iI x)), (2, .int (iI y))]) rfl ?_
  refine pe_go (pc := 0) rfl (s_aload_n rfl) ?_
  refine pe_go (pc := 1) rfl (s_getf (v := .ref (b + 1)) (gO hb) rfl) ?_
  refine pe_go (pc := 4) rfl (s_getf (v := .ref (b + 1 + 1)) (gA0 (oC_len hb) (mB_0 _ _ _)) rfl) ?_
  refine pe_go (pc := 7) rfl (s_iload_n rfl) ?_
  refine pe_go (pc := 8) rfl (s_iload_n rfl) ?_
  refine pe_call rfl (s_invV rfl (gA (oC_len hb) (mB_1 _ _ _)) rfl rfl) (c_atPlace (oC_len hb) S hx hy hS.B) ?_
  exact pe_ret rfl s_reti ⟨rfl, rfl⟩
theorem o_corner {pre post : pW} {b : Nat} (hb : pre.length = b) {S : St} {L M : List St} {K : St} {w : pW} (hO : OB pre post b S L M K w) {T : Nat} (hT : S.tn = (T : Int)) (hT2 : T ≤ 74) {t k : Nat} (ht : t < T) (hk : k < 3) : pRun 109 [.ref b, .int (iI (t : Int)), .int (iI (k : Int))] w (some (.int (iI (S.cn t k : Int)))) w := by
  obtain ⟨hS, hLo, hLl, hMo, hMl, pn, pb, rn, rb, cl, kp, kr, rfl⟩ := hO
  refine qx_run ?_
  refine pc_run (lv := [(0, .ref b), (1, .int (iI (t : Int))), (2, .int (iI (k : Int)))]) rfl ?_
  refine pe_go (pc := 0) rfl (s_aload_n rfl) ?_
  refine pe_go (pc := 1) rfl (s_getf (v := .ref (b + 1)) (gO hb) rfl) ?_
  refine pe_go (pc := 4) rfl (s_iload_n rfl) ?_
  refine pe_call rfl (s_invV rfl (gA0 (oC_len hb) (mB_0 _ _ _)) rfl rfl) (c_hasTri (oC_len hb) S (z := (t : Int)) ⟨by omega, by omega⟩ (by rw [hT]; exact ⟨by omega, by omega⟩)) ?_
  refine pe_go rfl (s_ifeq_true (decide_eq_true (show 0 ≤ (t : Int) ∧ (t : Int) < S.tn by omega))) ?_
  refine pe_go (pc := 11) rfl (s_iload_n rfl) ?_
  refine pe_go rfl (s_if_lt_f ⟨by omega, by omega⟩ (by omega)) ?_
  refine pe_go (pc := 15) rfl (s_iload_n rfl) ?_
  refine pe_go (pc := 16) rfl (s_iconst (z := 3) rfl) ?_
  refine pe_go rfl (s_icmp_ge_f ⟨by omega, by omega⟩ ⟨by decide, by decide⟩ (by omega)) ?_
  refine pe_go (pc := 20) rfl (s_aload_n rfl) ?_
  refine pe_go (pc := 21) rfl (s_getf (v := .ref (b + 1)) (gO hb) rfl) ?_
  refine pe_go (pc := 24) rfl (s_iload_n rfl) ?_
  refine pe_go (pc := 25) rfl (s_iload_n rfl) ?_
  refine pe_call rfl (s_invV rfl (gA0 (oC_len hb) (mB_0 _ _ _)) rfl rfl) (c_cornerOf (oC_len hb) S (by omega) hS.I.CN.1) ?_
  refine pe_go (pc := 29) rfl s_goto ?_
  exact pe_ret rfl s_reti ⟨rfl, rfl⟩
theorem o_beyond {pre post : pW} {b : Nat} (hb : pre.length = b) {S : St} {L M : List St} {K : St} {w : pW} (hO : OB pre post b S L M K w) {T : Nat} (hT : S.tn = (T : Int)) (hT2 : T ≤ 74) {t k : Nat} (ht : t < T) (hk : k < 3) : pRun 110 [.ref b, .int (iI (t : Int)), .int (iI (k : Int))] w (some (.int (iI (S.acr t k)))) w := by
  obtain ⟨hS, hLo, hLl, hMo, hMl, pn, pb, rn, rb, cl, kp, kr, rfl⟩ := hO
  refine qx_run ?_
  refine pc_run (lv := [(0, .ref b), (1, .int (iI (t : Int))), (2, .int (iI (k : Int)))]) rfl ?_
  refine pe_go (pc := 0) rfl (s_aload_n rfl) ?_
  refine pe_go (pc := 1) rfl (s_getf (v := .ref (b + 1)) (gO hb) rfl) ?_
  refine pe_go (pc := 4) rfl (s_iload_n rfl) ?_
  refine pe_call rfl (s_invV rfl (gA0 (oC_len hb) (mB_0 _ _ _)) rfl rfl) (c_hasTri (oC_len hb) S (z := (t : Int)) ⟨by omega, by omega⟩ (by rw [hT]; exact ⟨by omega, by omega⟩)) ?_
  refine pe_go rfl (s_ifeq_true (decide_eq_true (show 0 ≤ (t : Int) ∧ (t : Int) < S.tn by omega))) ?_
  refine pe_go (pc := 11) rfl (s_iload_n rfl) ?_
  refine pe_go rfl (s_if_lt_f ⟨by omega, by omega⟩ (by omega)) ?_
  refine pe_go (pc := 15) rfl (s_iload_n rfl) ?_
  refine pe_go (pc := 16) rfl (s_iconst (z := 3) rfl) ?_
  refine pe_go rfl (s_icmp_ge_f ⟨by omega, by omega⟩ ⟨by decide, by decide⟩ (by omega)) ?_
  refine pe_go (pc := 20) rfl (s_aload_n rfl) ?_
  refine pe_go (pc := 21) rfl (s_getf (v := .ref (b + 1)) (gO hb) rfl) ?_
  refine pe_go (pc := 24) rfl (s_iload_n rfl) ?_
  refine pe_go (pc := 25) rfl (s_iload_n rfl) ?_
  refine pe_call rfl (s_invV rfl (gA0 (oC_len hb) (mB_0 _ _ _)) rfl rfl) (c_across (oC_len hb) S (by omega) hk hS.I.CN.1 hS.I.A) ?_
  refine pe_go (pc := 29) rfl s_goto ?_
  exact pe_ret rfl s_reti ⟨rfl, rfl⟩
theorem o_area {pre post : pW} {b : Nat} (hb : pre.length = b) {S : St} {L M : List St} {K : St} {w : pW} (hO : OB pre post b S L M K w) {T : Nat} (hT : S.tn = (T : Int)) (hT2 : T ≤ 74) {t : Nat} (ht : t < T) : pRun 111 [.ref b, .int (iI (t : Int))] w (some (.int (iI (S.sd3 (S.cn t 0) (S.cn t 1) (S.cn t 2))))) w := by
  obtain ⟨hS, hLo, hLl, hMo, hMl, pn, pb, rn, rb, cl, kp, kr, rfl⟩ := hO
  refine qx_run ?_
  refine pc_run (lv := [(0, .ref b), (1, .int (iI (t : Int)))]) rfl ?_
  refine pe_go (pc := 0) rfl (s_aload_n rfl) ?_
  refine pe_go (pc := 1) rfl (s_getf (v := .ref (b + 1)) (gO hb) rfl) ?_
  refine pe_go (pc := 4) rfl (s_iload_n rfl) ?_
  refine pe_call rfl (s_invV rfl (gA0 (oC_len hb) (mB_0 _ _ _)) rfl rfl) (c_hasTri (oC_len hb) S (z := (t : Int)) ⟨by omega, by omega⟩ (by rw [hT]; exact ⟨by omega, by omega⟩)) ?_
  refine pe_go rfl (s_ifeq_true (decide_eq_true (show 0 ≤ (t : Int) ∧ (t : Int) < S.tn by omega))) ?_
  refine pe_go (pc := 11) rfl (s_aload_n rfl) ?_
  refine pe_go (pc := 12) rfl (s_getf (v := .ref (b + 1)) (gO hb) rfl) ?_
  refine pe_go (pc := 15) rfl (s_iload_n rfl) ?_
  refine pe_call rfl (s_invV rfl (gA0 (oC_len hb) (mB_0 _ _ _)) rfl rfl) (c_areaOf (oC_len hb) S (by omega) hS.I.CN.1) ?_
  refine pe_go (pc := 19) rfl s_goto ?_
  exact pe_ret rfl s_reti ⟨rfl, rfl⟩
theorem o_cornerN {pre post : pW} {b : Nat} (hb : pre.length = b) {S : St} {L M : List St} {K : St} {w : pW} (hO : OB pre post b S L M K w) {T : Nat} (hT : S.tn = (T : Int)) (hT2 : T ≤ 74) {z : Int} (hz : sm z) (ho : z < 0 ∨ (T : Int) ≤ z) {y : Int} : pRun 109 [.ref b, .int (iI z), .int (iI y)] w (some (.int (iI (-1)))) w := by
  obtain ⟨hS, hLo, hLl, hMo, hMl, pn, pb, rn, rb, cl, kp, kr, rfl⟩ := hO
  refine qx_run ?_
  refine pc_run (lv := [(0, .ref b), (1, .int (iI z)), (2, .int (iI y))]) rfl ?_
  refine pe_go (pc := 0) rfl (s_aload_n rfl) ?_
  refine pe_go (pc := 1) rfl (s_getf (v := .ref (b + 1)) (gO hb) rfl) ?_
  refine pe_go (pc := 4) rfl (s_iload_n rfl) ?_
  refine pe_call rfl (s_invV rfl (gA0 (oC_len hb) (mB_0 _ _ _)) rfl rfl) (c_hasTri (oC_len hb) S hz (by rw [hT]; exact ⟨by omega, by omega⟩)) ?_
  refine pe_go rfl (s_ifeq_false (decide_eq_false (show ¬ (0 ≤ z ∧ z < S.tn) by omega))) ?_
  refine pe_go (pc := 32) rfl (s_iconst (z := -1) rfl) ?_
  exact pe_ret rfl s_reti ⟨rfl, rfl⟩
theorem o_beyondN {pre post : pW} {b : Nat} (hb : pre.length = b) {S : St} {L M : List St} {K : St} {w : pW} (hO : OB pre post b S L M K w) {T : Nat} (hT : S.tn = (T : Int)) (hT2 : T ≤ 74) {z : Int} (hz : sm z) (ho : z < 0 ∨ (T : Int) ≤ z) {y : Int} : pRun 110 [.ref b, .int (iI z), .int (iI y)] w (some (.int (iI (-1)))) w := by
  obtain ⟨hS, hLo, hLl, hMo, hMl, pn, pb, rn, rb, cl, kp, kr, rfl⟩ := hO
  refine qx_run ?_
  refine pc_run (lv := [(0, .ref b), (1, .int (iI z)), (2, .int (iI y))]) rfl ?_
  refine pe_go (pc := 0) rfl (s_aload_n rfl) ?_
  refine pe_go (pc := 1) rfl (s_getf (v := .ref (b + 1)) (gO hb) rfl) ?_
  refine pe_go (pc := 4) rfl (s_iload_n rfl) ?_
  refine pe_call rfl (s_invV rfl (gA0 (oC_len hb) (mB_0 _ _ _)) rfl rfl) (c_hasTri (oC_len hb) S hz (by rw [hT]; exact ⟨by omega, by omega⟩)) ?_
  refine pe_go rfl (s_ifeq_false (decide_eq_false (show ¬ (0 ≤ z ∧ z < S.tn) by omega))) ?_
  refine pe_go (pc := 32) rfl (s_iconst (z := -1) rfl) ?_
  exact pe_ret rfl s_reti ⟨rfl, rfl⟩
theorem o_areaN {pre post : pW} {b : Nat} (hb : pre.length = b) {S : St} {L M : List St} {K : St} {w : pW} (hO : OB pre post b S L M K w) {T : Nat} (hT : S.tn = (T : Int)) (hT2 : T ≤ 74) {z : Int} (hz : sm z) (ho : z < 0 ∨ (T : Int) ≤ z) : pRun 111 [.ref b, .int (iI z)] w (some (.int (iI (-1)))) w := by
  obtain ⟨hS, hLo, hLl, hMo, hMl, pn, pb, rn, rb, cl, kp, kr, rfl⟩ := hO
  refine qx_run ?_
  refine pc_run (lv := [(0, .ref b), (1, .int (iI z))]) rfl ?_
  refine pe_go (pc := 0) rfl (s_aload_n rfl) ?_
  refine pe_go (pc := 1) rfl (s_getf (v := .ref (b + 1)) (gO hb) rfl) ?_
  refine pe_go (pc := 4) rfl (s_iload_n rfl) ?_
  refine pe_call rfl (s_invV rfl (gA0 (oC_len hb) (mB_0 _ _ _)) rfl rfl) (c_hasTri (oC_len hb) S hz (by rw [hT]; exact ⟨by omega, by omega⟩)) ?_
  refine pe_go rfl (s_ifeq_false (decide_eq_false (show ¬ (0 ≤ z ∧ z < S.tn) by omega))) ?_
  refine pe_go (pc := 22) rfl (s_iconst (z := -1) rfl) ?_
  exact pe_ret rfl s_reti ⟨rfl, rfl⟩
theorem o_corner3 {pre post : pW} {b : Nat} (hb : pre.length = b) {S : St} {L M : List St} {K : St} {w : pW} (hO : OB pre post b S L M K w) {T : Nat} (hT : S.tn = (T : Int)) (hT2 : T ≤ 74) {t : Nat} (ht : t < T) : pRun 109 [.ref b, .int (iI (t : Int)), .int (iI 3)] w (some (.int (iI (-1)))) w := by
  obtain ⟨hS, hLo, hLl, hMo, hMl, pn, pb, rn, rb, cl, kp, kr, rfl⟩ := hO
  refine qx_run ?_
  refine pc_run (lv := [(0, .ref b), (1, .int (iI (t : Int))), (2, .int (iI 3))]) rfl ?_
  refine pe_go (pc := 0) rfl (s_aload_n rfl) ?_
  refine pe_go (pc := 1) rfl (s_getf (v := .ref (b + 1)) (gO hb) rfl) ?_
  refine pe_go (pc := 4) rfl (s_iload_n rfl) ?_
  refine pe_call rfl (s_invV rfl (gA0 (oC_len hb) (mB_0 _ _ _)) rfl rfl) (c_hasTri (oC_len hb) S (z := (t : Int)) ⟨by omega, by omega⟩ (by rw [hT]; exact ⟨by omega, by omega⟩)) ?_
  refine pe_go rfl (s_ifeq_true (decide_eq_true (show 0 ≤ (t : Int) ∧ (t : Int) < S.tn by omega))) ?_
  refine pe_go (pc := 11) rfl (s_iload_n rfl) ?_
  refine pe_go rfl (s_if_lt_f ⟨by decide, by decide⟩ (by decide)) ?_
  refine pe_go (pc := 15) rfl (s_iload_n rfl) ?_
  refine pe_go (pc := 16) rfl (s_iconst (z := 3) rfl) ?_
  refine pe_go rfl (s_icmp_ge_t ⟨by decide, by decide⟩ ⟨by decide, by decide⟩ (by decide)) ?_
  refine pe_go (pc := 32) rfl (s_iconst (z := -1) rfl) ?_
  exact pe_ret rfl s_reti ⟨rfl, rfl⟩
theorem o_beyond3 {pre post : pW} {b : Nat} (hb : pre.length = b) {S : St} {L M : List St} {K : St} {w : pW} (hO : OB pre post b S L M K w) {T : Nat} (hT : S.tn = (T : Int)) (hT2 : T ≤ 74) {t : Nat} (ht : t < T) : pRun 110 [.ref b, .int (iI (t : Int)), .int (iI 3)] w (some (.int (iI (-1)))) w := by
  obtain ⟨hS, hLo, hLl, hMo, hMl, pn, pb, rn, rb, cl, kp, kr, rfl⟩ := hO
  refine qx_run ?_
  refine pc_run (lv := [(0, .ref b), (1, .int (iI (t : Int))), (2, .int (iI 3))]) rfl ?_
  refine pe_go (pc := 0) rfl (s_aload_n rfl) ?_
  refine pe_go (pc := 1) rfl (s_getf (v := .ref (b + 1)) (gO hb) rfl) ?_
  refine pe_go (pc := 4) rfl (s_iload_n rfl) ?_
  refine pe_call rfl (s_invV rfl (gA0 (oC_len hb) (mB_0 _ _ _)) rfl rfl) (c_hasTri (oC_len hb) S (z := (t : Int)) ⟨by omega, by omega⟩ (by rw [hT]; exact ⟨by omega, by omega⟩)) ?_
  refine pe_go rfl (s_ifeq_true (decide_eq_true (show 0 ≤ (t : Int) ∧ (t : Int) < S.tn by omega))) ?_
  refine pe_go (pc := 11) rfl (s_iload_n rfl) ?_
  refine pe_go rfl (s_if_lt_f ⟨by decide, by decide⟩ (by decide)) ?_
  refine pe_go (pc := 15) rfl (s_iload_n rfl) ?_
  refine pe_go (pc := 16) rfl (s_iconst (z := 3) rfl) ?_
  refine pe_go rfl (s_icmp_ge_t ⟨by decide, by decide⟩ ⟨by decide, by decide⟩ (by decide)) ?_
  refine pe_go (pc := 32) rfl (s_iconst (z := -1) rfl) ?_
  exact pe_ret rfl s_reti ⟨rfl, rfl⟩
theorem o_is0 {pre post : pW} {b : Nat} (hb : pre.length = b) {S : St} {L M : List St} {K : St} {w : pW} (hO : OB pre post b S L M K w)  : pRun 105 [.ref b, .int (iI 0)] w (some (.int (iI (bcnt S.th : Int)))) w := by
  obtain ⟨hS, hLo, hLl, hMo, hMl, pn, pb, rn, rb, cl, kp, kr, rfl⟩ := hO
  refine qx_run ?_
  refine pc_run (lv := [(0, .ref b), (1, .int (iI 0))]) rfl ?_
  refine pe_go (pc := 0) rfl (s_iload_n rfl) ?_
  refine pe_go (pc := 1) rfl (s_tabK (z := 0) (t1 := 68) (by decide) (by decide) (by decide) rfl) ?_
  refine pe_go (pc := 68) rfl (s_aload_n rfl) ?_
  refine pe_go (pc := 69) rfl (s_getf (v := .ref (b + 1)) (gO hb) rfl) ?_
  refine pe_go (pc := 72) rfl (s_getf (v := .ref (b + 1 + 1)) (gA0 (oC_len hb) (mB_0 _ _ _)) rfl) ?_
  refine pe_call rfl (s_invV rfl (gA (oC_len hb) (mB_1 _ _ _)) rfl rfl) (c_points (oC_len hb) S) ?_
  exact pe_ret rfl s_reti ⟨rfl, rfl⟩
theorem o_is1 {pre post : pW} {b : Nat} (hb : pre.length = b) {S : St} {L M : List St} {K : St} {w : pW} (hO : OB pre post b S L M K w)  : pRun 105 [.ref b, .int (iI 1)] w (some (.int (iI (S.tn)))) w := by
  obtain ⟨hS, hLo, hLl, hMo, hMl, pn, pb, rn, rb, cl, kp, kr, rfl⟩ := hO
  refine qx_run ?_
  refine pc_run (lv := [(0, .ref b), (1, .int (iI 1))]) rfl ?_
  refine pe_go (pc := 0) rfl (s_iload_n rfl) ?_
  refine pe_go (pc := 1) rfl (s_tabK (z := 1) (t1 := 79) (by decide) (by decide) (by decide) rfl) ?_
  refine pe_go (pc := 79) rfl (s_aload_n rfl) ?_
  refine pe_go (pc := 80) rfl (s_getf (v := .ref (b + 1)) (gO hb) rfl) ?_
  refine pe_go (pc := 83) rfl (s_getf (v := .int (iI S.tn)) (gA0 (oC_len hb) (mB_0 _ _ _)) rfl) ?_
  exact pe_ret rfl s_reti ⟨rfl, rfl⟩
theorem o_is2 {pre post : pW} {b : Nat} (hb : pre.length = b) {S : St} {L M : List St} {K : St} {w : pW} (hO : OB pre post b S L M K w)  : pRun 105 [.ref b, .int (iI 2)] w (some (.int (iI (S.ec)))) w := by
  obtain ⟨hS, hLo, hLl, hMo, hMl, pn, pb, rn, rb, cl, kp, kr, rfl⟩ := hO
  refine qx_run ?_
  refine pc_run (lv := [(0, .ref b), (1, .int (iI 2))]) rfl ?_
  refine pe_go (pc := 0) rfl (s_iload_n rfl) ?_
  refine pe_go (pc := 1) rfl (s_tabK (z := 2) (t1 := 87) (by decide) (by decide) (by decide) rfl) ?_
  refine pe_go (pc := 87) rfl (s_aload_n rfl) ?_
  refine pe_go (pc := 88) rfl (s_getf (v := .ref (b + 1)) (gO hb) rfl) ?_
  refine pe_go (pc := 91) rfl (s_getf (v := .int (iI S.ec)) (gA0 (oC_len hb) (mB_0 _ _ _)) rfl) ?_
  exact pe_ret rfl s_reti ⟨rfl, rfl⟩
theorem o_is3 {pre post : pW} {b : Nat} (hb : pre.length = b) {S : St} {L M : List St} {K : St} {w : pW} (hO : OB pre post b S L M K w) {E : Nat} (hE : S.ec = (E : Int)) (hE2 : E ≤ 113) : pRun 105 [.ref b, .int (iI 3)] w (some (.int (iI (cntF S.cfP E 0 0)))) w := by
  obtain ⟨hS, hLo, hLl, hMo, hMl, pn, pb, rn, rb, cl, kp, kr, rfl⟩ := hO
  refine qx_run ?_
  refine pc_run (lv := [(0, .ref b), (1, .int (iI 3))]) rfl ?_
  refine pe_go (pc := 0) rfl (s_iload_n rfl) ?_
  refine pe_go (pc := 1) rfl (s_tabK (z := 3) (t1 := 95) (by decide) (by decide) (by decide) rfl) ?_
  refine pe_go (pc := 95) rfl (s_aload_n rfl) ?_
  refine pe_go (pc := 96) rfl (s_getf (v := .ref (b + 1)) (gO hb) rfl) ?_
  refine pe_call rfl (s_invV rfl (gA0 (oC_len hb) (mB_0 _ _ _)) rfl rfl) (c_countFixed (oC_len hb) S hE hE2 hS.I.CN.2) ?_
  exact pe_ret rfl s_reti ⟨rfl, rfl⟩
theorem o_is4 {pre post : pW} {b : Nat} (hb : pre.length = b) {S : St} {L M : List St} {K : St} {w : pW} (hO : OB pre post b S L M K w) {E : Nat} (hE : S.ec = (E : Int)) (hE2 : E ≤ 113) : pRun 105 [.ref b, .int (iI 4)] w (some (.int (iI (cntF S.cbP E 0 0)))) w := by
  obtain ⟨hS, hLo, hLl, hMo, hMl, pn, pb, rn, rb, cl, kp, kr, rfl⟩ := hO
  refine qx_run ?_
  refine pc_run (lv := [(0, .ref b), (1, .int (iI 4))]) rfl ?_
  refine pe_go (pc := 0) rfl (s_iload_n rfl) ?_
  refine pe_go (pc := 1) rfl (s_tabK (z := 4) (t1 := 103) (by decide) (by decide) (by decide) rfl) ?_
  refine pe_go (pc := 103) rfl (s_aload_n rfl) ?_
  refine pe_go (pc := 104) rfl (s_getf (v := .ref (b + 1)) (gO hb) rfl) ?_
  refine pe_call rfl (s_invV rfl (gA0 (oC_len hb) (mB_0 _ _ _)) rfl rfl) (c_countBorder (oC_len hb) S hE hE2 hS.I.CN.2 hS.I.A) ?_
  exact pe_ret rfl s_reti ⟨rfl, rfl⟩
theorem o_is6 {pre post : pW} {b : Nat} (hb : pre.length = b) {S : St} {L M : List St} {K : St} {w : pW} (hO : OB pre post b S L M K w)  : pRun 105 [.ref b, .int (iI 6)] w (some (.int (iI (S.g)))) w := by
  obtain ⟨hS, hLo, hLl, hMo, hMl, pn, pb, rn, rb, cl, kp, kr, rfl⟩ := hO
  refine qx_run ?_
  refine pc_run (lv := [(0, .ref b), (1, .int (iI 6))]) rfl ?_
  refine pe_go (pc := 0) rfl (s_iload_n rfl) ?_
  refine pe_go (pc := 1) rfl (s_tabK (z := 6) (t1 := 111) (by decide) (by decide) (by decide) rfl) ?_
  refine pe_go (pc := 111) rfl (s_aload_n rfl) ?_
  refine pe_go (pc := 112) rfl (s_getf (v := .ref (b + 1)) (gO hb) rfl) ?_
  refine pe_go (pc := 115) rfl (s_getf (v := .ref (b + 1 + 1)) (gA0 (oC_len hb) (mB_0 _ _ _)) rfl) ?_
  refine pe_go (pc := 118) rfl (s_getf (v := .int (iI S.g)) (gA (oC_len hb) (mB_1 _ _ _)) rfl) ?_
  exact pe_ret rfl s_reti ⟨rfl, rfl⟩
theorem o_is7 {pre post : pW} {b : Nat} (hb : pre.length = b) {S : St} {L M : List St} {K : St} {w : pW} (hO : OB pre post b S L M K w) {E : Nat} (hE : S.ec = (E : Int)) (hE2 : E ≤ 113) : pRun 105 [.ref b, .int (iI 7)] w (some (.int (iI (cntF S.bent E 0 0)))) w := by
  obtain ⟨hS, hLo, hLl, hMo, hMl, pn, pb, rn, rb, cl, kp, kr, rfl⟩ := hO
  refine qx_run ?_
  refine pc_run (lv := [(0, .ref b), (1, .int (iI 7))]) rfl ?_
  refine pe_go (pc := 0) rfl (s_iload_n rfl) ?_
  refine pe_go (pc := 1) rfl (s_tabK (z := 7) (t1 := 122) (by decide) (by decide) (by decide) rfl) ?_
  refine pe_go (pc := 122) rfl (s_aload_n rfl) ?_
  refine pe_go (pc := 123) rfl (s_getf (v := .ref (b + 1)) (gO hb) rfl) ?_
  refine pe_call rfl (s_invV rfl (gA0 (oC_len hb) (mB_0 _ _ _)) rfl rfl) (c_countBent (oC_len hb) S hE hE2 hS.I.CN.2 hS.I.A hS.B hS.I.I) ?_
  exact pe_ret rfl s_reti ⟨rfl, rfl⟩
theorem o_is8 {pre post : pW} {b : Nat} (hb : pre.length = b) {S : St} {L M : List St} {K : St} {w : pW} (hO : OB pre post b S L M K w)  : pRun 105 [.ref b, .int (iI 8)] w (some (.int (iI (S.hn)))) w := by
  obtain ⟨hS, hLo, hLl, hMo, hMl, pn, pb, rn, rb, cl, kp, kr, rfl⟩ := hO
  refine qx_run ?_
  refine pc_run (lv := [(0, .ref b), (1, .int (iI 8))]) rfl ?_
  refine pe_go (pc := 0) rfl (s_iload_n rfl) ?_
  refine pe_go (pc := 1) rfl (s_tabK (z := 8) (t1 := 130) (by decide) (by decide) (by decide) rfl) ?_
  refine pe_go (pc := 130) rfl (s_aload_n rfl) ?_
  refine pe_go (pc := 131) rfl (s_getf (v := .ref (b + 1)) (gO hb) rfl) ?_
  refine pe_go (pc := 134) rfl (s_getf (v := .ref (b + 1 + 1)) (gA0 (oC_len hb) (mB_0 _ _ _)) rfl) ?_
  refine pe_go (pc := 137) rfl (s_getf (v := .int (iI S.hn)) (gA (oC_len hb) (mB_1 _ _ _)) rfl) ?_
  exact pe_ret rfl s_reti ⟨rfl, rfl⟩
theorem o_is10 {pre post : pW} {b : Nat} (hb : pre.length = b) {S : St} {L M : List St} {K : St} {w : pW} (hO : OB pre post b S L M K w) {T : Nat} (hT : S.tn = (T : Int)) (hT2 : T ≤ 74) : pRun 105 [.ref b, .int (iI 10)] w (some (.int (iI (cntF (S.angP (-1)) T 0 0)))) w := by
  obtain ⟨hS, hLo, hLl, hMo, hMl, pn, pb, rn, rb, cl, kp, kr, rfl⟩ := hO
  refine qx_run ?_
  refine pc_run (lv := [(0, .ref b), (1, .int (iI 10))]) rfl ?_
  refine pe_go (pc := 0) rfl (s_iload_n rfl) ?_
  refine pe_go (pc := 1) rfl (s_tabK (z := 10) (t1 := 141) (by decide) (by decide) (by decide) rfl) ?_
  refine pe_go (pc := 141) rfl (s_aload_n rfl) ?_
  refine pe_go (pc := 142) rfl (s_getf (v := .ref (b + 1)) (gO hb) rfl) ?_
  refine pe_go (pc := 145) rfl (s_iconst (z := -1) rfl) ?_
  refine pe_call rfl (s_invV rfl (gA0 (oC_len hb) (mB_0 _ _ _)) rfl rfl) (c_countAngles (oC_len hb) S hT hT2 (k := -1) ⟨by decide, by decide⟩ hS.I.CN.1 hS.B) ?_
  exact pe_ret rfl s_reti ⟨rfl, rfl⟩
theorem o_is11 {pre post : pW} {b : Nat} (hb : pre.length = b) {S : St} {L M : List St} {K : St} {w : pW} (hO : OB pre post b S L M K w) {T : Nat} (hT : S.tn = (T : Int)) (hT2 : T ≤ 74) : pRun 105 [.ref b, .int (iI 11)] w (some (.int (iI (cntF (S.angP 0) T 0 0)))) w := by
  obtain ⟨hS, hLo, hLl, hMo, hMl, pn, pb, rn, rb, cl, kp, kr, rfl⟩ := hO
  refine qx_run ?_
  refine pc_run (lv := [(0, .ref b), (1, .int (iI 11))]) rfl ?_
  refine pe_go (pc := 0) rfl (s_iload_n rfl) ?_
  refine pe_go (pc := 1) rfl (s_tabK (z := 11) (t1 := 150) (by decide) (by decide) (by decide) rfl) ?_
  refine pe_go (pc := 150) rfl (s_aload_n rfl) ?_
  refine pe_go (pc := 151) rfl (s_getf (v := .ref (b + 1)) (gO hb) rfl) ?_
  refine pe_go (pc := 154) rfl (s_iconst (z := 0) rfl) ?_
  refine pe_call rfl (s_invV rfl (gA0 (oC_len hb) (mB_0 _ _ _)) rfl rfl) (c_countAngles (oC_len hb) S hT hT2 (k := 0) ⟨by decide, by decide⟩ hS.I.CN.1 hS.B) ?_
  exact pe_ret rfl s_reti ⟨rfl, rfl⟩
theorem c_isRegN {pre post : pW} {b : Nat} (hb : pre.length = b) (S : St) {pn : Nat → Int} {pb : Nat → Int64} {pc : Int} {rn : Nat → Int} {rb : Nat → Int64} {rc : Int} {cl : Nat → Int} : pRun 106 [.ref b, .int (iI 13)] ((pre ++ oC (b + 1)) ++ (mB (b + 1) S ++ (oP (b + 1) pn pb pc rn rb rc cl ++ post))) (some (.int (iI (-1)))) ((pre ++ oC (b + 1)) ++ (mB (b + 1) S ++ (oP (b + 1) pn pb pc rn rb rc cl ++ post))) := by
  refine qx_run ?_
  refine pc_run (lv := [(0, .ref b), (1, .int (iI 13))]) rfl ?_
  refine pe_go (pc := 0) rfl (s_iload_n rfl) ?_
  refine pe_go (pc := 1) rfl (s_iconst (z := 5) rfl) ?_
  refine pe_go rfl (s_icmp_eq_f ⟨by decide, by decide⟩ ⟨by decide, by decide⟩ (by decide)) ?_
  refine pe_go (pc := 5) rfl (s_iload_n rfl) ?_
  refine pe_go (pc := 6) rfl (s_bipush (z := 9) rfl) ?_
  refine pe_go rfl (s_icmp_eq_f ⟨by decide, by decide⟩ ⟨by decide, by decide⟩ (by decide)) ?_
  refine pe_go (pc := 11) rfl (s_iconst (z := -1) rfl) ?_
  exact pe_ret rfl s_reti ⟨rfl, rfl⟩
theorem o_is13 {pre post : pW} {b : Nat} (hb : pre.length = b) {S : St} {L M : List St} {K : St} {w : pW} (hO : OB pre post b S L M K w)  : pRun 105 [.ref b, .int (iI 13)] w (some (.int (iI (-1)))) w := by
  obtain ⟨hS, hLo, hLl, hMo, hMl, pn, pb, rn, rb, cl, kp, kr, rfl⟩ := hO
  refine qx_run ?_
  refine pc_run (lv := [(0, .ref b), (1, .int (iI 13))]) rfl ?_
  refine pe_go (pc := 0) rfl (s_iload_n rfl) ?_
  refine pe_go (pc := 1) rfl (s_tabD (z := 13) (by decide) (by decide)) ?_
  refine pe_go (pc := 164) rfl (s_aload_n rfl) ?_
  refine pe_go (pc := 165) rfl (s_iload_n rfl) ?_
  refine pe_call rfl (s_invV rfl (gO hb) rfl rfl) (c_isRegN hb S) ?_
  exact pe_ret rfl s_reti ⟨rfl, rfl⟩
theorem o_of0 {pre post : pW} {b : Nat} (hb : pre.length = b) {S : St} {L M : List St} {K : St} {w : pW} (hO : OB pre post b S L M K w) {p : Nat} (hp : p < 40) (sp : S.has p) : pRun 107 [.ref b, .int (iI (p : Int)), .int (iI 0)] w (some (.int (iI (S.xs p)))) w := by
  obtain ⟨hS, hLo, hLl, hMo, hMl, pn, pb, rn, rb, cl, kp, kr, rfl⟩ := hO
  refine qx_run ?_
  refine pc_run (lv := [(0, .ref b), (1, .int (iI (p : Int))), (2, .int (iI 0))]) rfl ?_
  refine pe_go (pc := 0) rfl (s_aload_n rfl) ?_
  refine pe_go (pc := 1) rfl (s_getf (v := .ref (b + 1)) (gO hb) rfl) ?_
  refine pe_go (pc := 4) rfl (s_getf (v := .ref (b + 1 + 1)) (gA0 (oC_len hb) (mB_0 _ _ _)) rfl) ?_
  refine pe_go (pc := 7) rfl (s_astore_n (lv' := [(3, .ref (b + 1 + 1)), (0, .ref b), (1, .int (iI (p : Int))), (2, .int (iI 0))]) rfl) ?_
  refine pe_go (pc := 8) rfl (s_aload_n rfl) ?_
  refine pe_go (pc := 9) rfl (s_iload_n rfl) ?_
  refine pe_call rfl (s_invV rfl (gA (oC_len hb) (mB_1 _ _ _)) rfl rfl) (c_has (oC_len hb) S hp) ?_
  refine pe_go rfl (s_ifne_true (decide_eq_true sp)) ?_
  refine pe_go (pc := 37) rfl (s_iload_n rfl) ?_
  refine pe_go (pc := 38) rfl (s_tabK (z := 0) (t1 := 76) (by decide) (by decide) (by decide) rfl) ?_
  refine pe_go (pc := 76) rfl (s_aload_n rfl) ?_
  refine pe_go (pc := 77) rfl (s_getf (v := .ref (b + 1 + 2)) (gA (oC_len hb) (mB_1 _ _ _)) rfl) ?_
  refine pe_go (pc := 80) rfl (s_iload_n rfl) ?_
  refine pe_go (pc := 81) rfl (s_iald (n := 40) (f := S.xs) (v := S.xs p) (gA (oC_len hb) (mB_xs _ _ _)) (k := p) (by omega) (by omega) (by decide) rfl) ?_
  exact pe_ret rfl s_reti ⟨rfl, rfl⟩
theorem o_of1 {pre post : pW} {b : Nat} (hb : pre.length = b) {S : St} {L M : List St} {K : St} {w : pW} (hO : OB pre post b S L M K w) {p : Nat} (hp : p < 40) (sp : S.has p) : pRun 107 [.ref b, .int (iI (p : Int)), .int (iI 1)] w (some (.int (iI (S.ys p)))) w := by
  obtain ⟨hS, hLo, hLl, hMo, hMl, pn, pb, rn, rb, cl, kp, kr, rfl⟩ := hO
  refine qx_run ?_
  refine pc_run (lv := [(0, .ref b), (1, .int (iI (p : Int))), (2, .int (iI 1))]) rfl ?_
  refine pe_go (pc := 0) rfl (s_aload_n rfl) ?_
  refine pe_go (pc := 1) rfl (s_getf (v := .ref (b + 1)) (gO hb) rfl) ?_
  refine pe_go (pc := 4) rfl (s_getf (v := .ref (b + 1 + 1)) (gA0 (oC_len hb) (mB_0 _ _ _)) rfl) ?_
  refine pe_go (pc := 7) rfl (s_astore_n (lv' := [(3, .ref (b + 1 + 1)), (0, .ref b), (1, .int (iI (p : Int))), (2, .int (iI 1))]) rfl) ?_
  refine pe_go (pc := 8) rfl (s_aload_n rfl) ?_
  refine pe_go (pc := 9) rfl (s_iload_n rfl) ?_
  refine pe_call rfl (s_invV rfl (gA (oC_len hb) (mB_1 _ _ _)) rfl rfl) (c_has (oC_len hb) S hp) ?_
  refine pe_go rfl (s_ifne_true (decide_eq_true sp)) ?_
  refine pe_go (pc := 37) rfl (s_iload_n rfl) ?_
  refine pe_go (pc := 38) rfl (s_tabK (z := 1) (t1 := 83) (by decide) (by decide) (by decide) rfl) ?_
  refine pe_go (pc := 83) rfl (s_aload_n rfl) ?_
  refine pe_go (pc := 84) rfl (s_getf (v := .ref (b + 1 + 3)) (gA (oC_len hb) (mB_1 _ _ _)) rfl) ?_
  refine pe_go (pc := 87) rfl (s_iload_n rfl) ?_
  refine pe_go (pc := 88) rfl (s_iald (n := 40) (f := S.ys) (v := S.ys p) (gA (oC_len hb) (mB_ys _ _ _)) (k := p) (by omega) (by omega) (by decide) rfl) ?_
  exact pe_ret rfl s_reti ⟨rfl, rfl⟩
theorem o_of3 {pre post : pW} {b : Nat} (hb : pre.length = b) {S : St} {L M : List St} {K : St} {w : pW} (hO : OB pre post b S L M K w) {p : Nat} (hp : p < 40) (sp : S.has p) : pRun 107 [.ref b, .int (iI (p : Int)), .int (iI 3)] w (some (.int (iI (bcnt (S.fx p) : Int)))) w := by
  obtain ⟨hS, hLo, hLl, hMo, hMl, pn, pb, rn, rb, cl, kp, kr, rfl⟩ := hO
  refine qx_run ?_
  refine pc_run (lv := [(0, .ref b), (1, .int (iI (p : Int))), (2, .int (iI 3))]) rfl ?_
  refine pe_go (pc := 0) rfl (s_aload_n rfl) ?_
  refine pe_go (pc := 1) rfl (s_getf (v := .ref (b + 1)) (gO hb) rfl) ?_
  refine pe_go (pc := 4) rfl (s_getf (v := .ref (b + 1 + 1)) (gA0 (oC_len hb) (mB_0 _ _ _)) rfl) ?_
  refine pe_go (pc := 7) rfl (s_astore_n (lv' := [(3, .ref (b + 1 + 1)), (0, .ref b), (1, .int (iI (p : Int))), (2, .int (iI 3))]) rfl) ?_
  refine pe_go (pc := 8) rfl (s_aload_n rfl) ?_
  refine pe_go (pc := 9) rfl (s_iload_n rfl) ?_
  refine pe_call rfl (s_invV rfl (gA (oC_len hb) (mB_1 _ _ _)) rfl rfl) (c_has (oC_len hb) S hp) ?_
  refine pe_go rfl (s_ifne_true (decide_eq_true sp)) ?_
  refine pe_go (pc := 37) rfl (s_iload_n rfl) ?_
  refine pe_go (pc := 38) rfl (s_tabK (z := 3) (t1 := 103) (by decide) (by decide) (by decide) rfl) ?_
  refine pe_go (pc := 103) rfl (s_aload_n rfl) ?_
  refine pe_go (pc := 104) rfl (s_getf (v := .ref (b + 1 + 5)) (gA (oC_len hb) (mB_1 _ _ _)) rfl) ?_
  refine pe_go (pc := 107) rfl (s_iload_n rfl) ?_
  refine pe_go (pc := 108) rfl (s_lald (n := 40) (f := S.fx) (v := S.fx p) (gA (oC_len hb) (mB_fx _ _ _)) (k := p) (by omega) (by omega) (by decide) rfl) ?_
  refine pe_call rfl (s_invS rfl rfl rfl) (c_bitCount (S.fx p) _) ?_
  exact pe_ret rfl s_reti ⟨rfl, rfl⟩
theorem o_of5 {pre post : pW} {b : Nat} (hb : pre.length = b) {S : St} {L M : List St} {K : St} {w : pW} (hO : OB pre post b S L M K w) {p : Nat} (hp : p < 40) (sp : S.has p) : pRun 107 [.ref b, .int (iI (p : Int)), .int (iI 5)] w (some (.int (iI (S.hs p)))) w := by
  obtain ⟨hS, hLo, hLl, hMo, hMl, pn, pb, rn, rb, cl, kp, kr, rfl⟩ := hO
  refine qx_run ?_
  refine pc_run (lv := [(0, .ref b), (1, .int (iI (p : Int))), (2, .int (iI 5))]) rfl ?_
  refine pe_go (pc := 0) rfl (s_aload_n rfl) ?_
  refine pe_go (pc := 1) rfl (s_getf (v := .ref (b + 1)) (gO hb) rfl) ?_
  refine pe_go (pc := 4) rfl (s_getf (v := .ref (b + 1 + 1)) (gA0 (oC_len hb) (mB_0 _ _ _)) rfl) ?_
  refine pe_go (pc := 7) rfl (s_astore_n (lv' := [(3, .ref (b + 1 + 1)), (0, .ref b), (1, .int (iI (p : Int))), (2, .int (iI 5))]) rfl) ?_
  refine pe_go (pc := 8) rfl (s_aload_n rfl) ?_
  refine pe_go (pc := 9) rfl (s_iload_n rfl) ?_
  refine pe_call rfl (s_invV rfl (gA (oC_len hb) (mB_1 _ _ _)) rfl rfl) (c_has (oC_len hb) S hp) ?_
  refine pe_go rfl (s_ifne_true (decide_eq_true sp)) ?_
  refine pe_go (pc := 37) rfl (s_iload_n rfl) ?_
  refine pe_go (pc := 38) rfl (s_tabK (z := 5) (t1 := 127) (by decide) (by decide) (by decide) rfl) ?_
  refine pe_go (pc := 127) rfl (s_aload_n rfl) ?_
  refine pe_go (pc := 128) rfl (s_getf (v := .ref (b + 1 + 4)) (gA (oC_len hb) (mB_1 _ _ _)) rfl) ?_
  refine pe_go (pc := 131) rfl (s_iload_n rfl) ?_
  refine pe_go (pc := 132) rfl (s_iald (n := 40) (f := S.hs) (v := S.hs p) (gA (oC_len hb) (mB_hs _ _ _)) (k := p) (by omega) (by omega) (by decide) rfl) ?_
  exact pe_ret rfl s_reti ⟨rfl, rfl⟩
theorem o_of6 {pre post : pW} {b : Nat} (hb : pre.length = b) {S : St} {L M : List St} {K : St} {w : pW} (hO : OB pre post b S L M K w) {p : Nat} (hp : p < 40) (sp : S.has p) : pRun 107 [.ref b, .int (iI (p : Int)), .int (iI 6)] w (some (.int (iI (-1)))) w := by
  obtain ⟨hS, hLo, hLl, hMo, hMl, pn, pb, rn, rb, cl, kp, kr, rfl⟩ := hO
  refine qx_run ?_
  refine pc_run (lv := [(0, .ref b), (1, .int (iI (p : Int))), (2, .int (iI 6))]) rfl ?_
  refine pe_go (pc := 0) rfl (s_aload_n rfl) ?_
  refine pe_go (pc := 1) rfl (s_getf (v := .ref (b + 1)) (gO hb) rfl) ?_
  refine pe_go (pc := 4) rfl (s_getf (v := .ref (b + 1 + 1)) (gA0 (oC_len hb) (mB_0 _ _ _)) rfl) ?_
  refine pe_go (pc := 7) rfl (s_astore_n (lv' := [(3, .ref (b + 1 + 1)), (0, .ref b), (1, .int (iI (p : Int))), (2, .int (iI 6))]) rfl) ?_
  refine pe_go (pc := 8) rfl (s_aload_n rfl) ?_
  refine pe_go (pc := 9) rfl (s_iload_n rfl) ?_
  refine pe_call rfl (s_invV rfl (gA (oC_len hb) (mB_1 _ _ _)) rfl rfl) (c_has (oC_len hb) S hp) ?_
  refine pe_go rfl (s_ifne_true (decide_eq_true sp)) ?_
  refine pe_go (pc := 37) rfl (s_iload_n rfl) ?_
  refine pe_go (pc := 38) rfl (s_tabD (z := 6) (by decide) (by decide)) ?_
  refine pe_go (pc := 134) rfl (s_iconst (z := -1) rfl) ?_
  exact pe_ret rfl s_reti ⟨rfl, rfl⟩
theorem o_of4 {pre post : pW} {b : Nat} (hb : pre.length = b) {S : St} {L M : List St} {K : St} {w : pW} (hO : OB pre post b S L M K w) {p : Nat} (hp : p < 40) (sp : S.has p) : pRun 107 [.ref b, .int (iI (p : Int)), .int (iI 4)] w (some (.int (iI (if zabs (S.xs p) = 1000 ∨ zabs (S.ys p) = 1000 then 1 else 0)))) w := by
  obtain ⟨hS, hLo, hLl, hMo, hMl, pn, pb, rn, rb, cl, kp, kr, rfl⟩ := hO
  refine qx_run ?_
  refine pc_run (lv := [(0, .ref b), (1, .int (iI (p : Int))), (2, .int (iI 4))]) rfl ?_
  refine pe_go (pc := 0) rfl (s_aload_n rfl) ?_
  refine pe_go (pc := 1) rfl (s_getf (v := .ref (b + 1)) (gO hb) rfl) ?_
  refine pe_go (pc := 4) rfl (s_getf (v := .ref (b + 1 + 1)) (gA0 (oC_len hb) (mB_0 _ _ _)) rfl) ?_
  refine pe_go (pc := 7) rfl (s_astore_n (lv' := [(3, .ref (b + 1 + 1)), (0, .ref b), (1, .int (iI (p : Int))), (2, .int (iI 4))]) rfl) ?_
  refine pe_go (pc := 8) rfl (s_aload_n rfl) ?_
  refine pe_go (pc := 9) rfl (s_iload_n rfl) ?_
  refine pe_call rfl (s_invV rfl (gA (oC_len hb) (mB_1 _ _ _)) rfl rfl) (c_has (oC_len hb) S hp) ?_
  refine pe_go rfl (s_ifne_true (decide_eq_true sp)) ?_
  refine pe_go (pc := 37) rfl (s_iload_n rfl) ?_
  refine pe_go (pc := 38) rfl (s_tabK (z := 4) (t1 := 113) (by decide) (by decide) (by decide) rfl) ?_
  refine pe_go (pc := 113) rfl (s_aload_n rfl) ?_
  refine pe_go (pc := 114) rfl (s_iload_n rfl) ?_
  refine pe_call rfl (s_invV rfl (gA (oC_len hb) (mB_1 _ _ _)) rfl rfl) (c_onBorder (oC_len hb) S hp hS.B) ?_
  by_cases b1 : zabs (S.xs p) = 1000 ∨ zabs (S.ys p) = 1000
  · skip
    refine pe_go rfl (s_ifeq_true (decide_eq_true b1)) ?_
    refine pe_go (pc := 121) rfl (s_iconst (z := 1) rfl) ?_
    refine pe_go (pc := 122) rfl s_goto ?_
    exact pe_ret rfl s_reti ⟨by rw [if_pos (by assumption)], rfl⟩
  · skip
    refine pe_go rfl (s_ifeq_false (decide_eq_false b1)) ?_
    refine pe_go (pc := 125) rfl (s_iconst (z := 0) rfl) ?_
    exact pe_ret rfl s_reti ⟨by rw [if_neg (by assumption)], rfl⟩
/-- a number at which no point is -/
def St.noP (S : St) (z : Int) : Prop := z < 0 ∨ 40 ≤ z ∨ ∃ p : Nat, p < 40 ∧ z = (p : Int) ∧ ¬ S.has p
theorem c_hasNo {pre post : pW} {m : Nat} (hm : pre.length = m) (S : St) {z : Int} (hz : sm z) (h : S.noP z) : pRun 64 [.ref (m + 1), .int (iI z)] (pre ++ (mB m S ++ post)) (some (.int (bI false))) (pre ++ (mB m S ++ post)) := by
  rcases h with h | h | ⟨p, hp, e, hn⟩
  · exact c_hasN hm S hz (Or.inl h)
  · exact c_hasN hm S hz (Or.inr h)
  · have := c_has hm S (p := p) hp (post := post)
    rw [decide_eq_false hn] at this
    rw [e]
    exact this
theorem o_ofN0 {pre post : pW} {b : Nat} (hb : pre.length = b) {S : St} {L M : List St} {K : St} {w : pW} (hO : OB pre post b S L M K w) {z : Int} (hz : sm z) (ho : S.noP z) : pRun 107 [.ref b, .int (iI z), .int (iI 0)] w (some (.int (iI (-100000)))) w := by
  obtain ⟨hS, hLo, hLl, hMo, hMl, pn, pb, rn, rb, cl, kp, kr, rfl⟩ := hO
  refine qx_run ?_
  refine pc_run (lv := [(0, .ref b), (1, .int (iI z)), (2, .int (iI 0))]) rfl ?_
  refine pe_go (pc := 0) rfl (s_aload_n rfl) ?_
  refine pe_go (pc := 1) rfl (s_getf (v := .ref (b + 1)) (gO hb) rfl) ?_
  refine pe_go (pc := 4) rfl (s_getf (v := .ref (b + 1 + 1)) (gA0 (oC_len hb) (mB_0 _ _ _)) rfl) ?_
  refine pe_go (pc := 7) rfl (s_astore_n (lv' := [(3, .ref (b + 1 + 1)), (0, .ref b), (1, .int (iI z)), (2, .int (iI 0))]) rfl) ?_
  refine pe_go (pc := 8) rfl (s_aload_n rfl) ?_
  refine pe_go (pc := 9) rfl (s_iload_n rfl) ?_
  refine pe_call rfl (s_invV rfl (gA (oC_len hb) (mB_1 _ _ _)) rfl rfl) (c_hasNo (oC_len hb) S hz ho) ?_
  refine pe_go rfl (s_ifne_false rfl) ?_
  refine pe_go (pc := 16) rfl (s_iload_n rfl) ?_
  refine pe_go rfl (s_if_eq_t ⟨by decide, by decide⟩ (by decide)) ?_
  refine pe_go (pc := 30) rfl (s_ldc (z := -100000) rfl) ?_
  refine pe_go (pc := 32) rfl s_goto ?_
  exact pe_ret rfl s_reti ⟨rfl, rfl⟩
theorem o_ofN1 {pre post : pW} {b : Nat} (hb : pre.length = b) {S : St} {L M : List St} {K : St} {w : pW} (hO : OB pre post b S L M K w) {z : Int} (hz : sm z) (ho : S.noP z) : pRun 107 [.ref b, .int (iI z), .int (iI 1)] w (some (.int (iI (-100000)))) w := by
  obtain ⟨hS, hLo, hLl, hMo, hMl, pn, pb, rn, rb, cl, kp, kr, rfl⟩ := hO
  refine qx_run ?_
  refine pc_run (lv := [(0, .ref b), (1, .int (iI z)), (2, .int (iI 1))]) rfl ?_
  refine pe_go (pc := 0) rfl (s_aload_n rfl) ?_
  refine pe_go (pc := 1) rfl (s_getf (v := .ref (b + 1)) (gO hb) rfl) ?_
  refine pe_go (pc := 4) rfl (s_getf (v := .ref (b + 1 + 1)) (gA0 (oC_len hb) (mB_0 _ _ _)) rfl) ?_
  refine pe_go (pc := 7) rfl (s_astore_n (lv' := [(3, .ref (b + 1 + 1)), (0, .ref b), (1, .int (iI z)), (2, .int (iI 1))]) rfl) ?_
  refine pe_go (pc := 8) rfl (s_aload_n rfl) ?_
  refine pe_go (pc := 9) rfl (s_iload_n rfl) ?_
  refine pe_call rfl (s_invV rfl (gA (oC_len hb) (mB_1 _ _ _)) rfl rfl) (c_hasNo (oC_len hb) S hz ho) ?_
  refine pe_go rfl (s_ifne_false rfl) ?_
  refine pe_go (pc := 16) rfl (s_iload_n rfl) ?_
  refine pe_go rfl (s_if_eq_f ⟨by decide, by decide⟩ (by decide)) ?_
  refine pe_go (pc := 20) rfl (s_iload_n rfl) ?_
  refine pe_go (pc := 21) rfl (s_iconst (z := 1) rfl) ?_
  refine pe_go rfl (s_icmp_eq_t ⟨by decide, by decide⟩ ⟨by decide, by decide⟩ (by decide)) ?_
  refine pe_go (pc := 30) rfl (s_ldc (z := -100000) rfl) ?_
  refine pe_go (pc := 32) rfl s_goto ?_
  exact pe_ret rfl s_reti ⟨rfl, rfl⟩
theorem o_ofN2 {pre post : pW} {b : Nat} (hb : pre.length = b) {S : St} {L M : List St} {K : St} {w : pW} (hO : OB pre post b S L M K w) {z : Int} (hz : sm z) (ho : S.noP z) : pRun 107 [.ref b, .int (iI z), .int (iI 2)] w (some (.int (iI (-1)))) w := by
  obtain ⟨hS, hLo, hLl, hMo, hMl, pn, pb, rn, rb, cl, kp, kr, rfl⟩ := hO
  refine qx_run ?_
  refine pc_run (lv := [(0, .ref b), (1, .int (iI z)), (2, .int (iI 2))]) rfl ?_
  refine pe_go (pc := 0) rfl (s_aload_n rfl) ?_
  refine pe_go (pc := 1) rfl (s_getf (v := .ref (b + 1)) (gO hb) rfl) ?_
  refine pe_go (pc := 4) rfl (s_getf (v := .ref (b + 1 + 1)) (gA0 (oC_len hb) (mB_0 _ _ _)) rfl) ?_
  refine pe_go (pc := 7) rfl (s_astore_n (lv' := [(3, .ref (b + 1 + 1)), (0, .ref b), (1, .int (iI z)), (2, .int (iI 2))]) rfl) ?_
  refine pe_go (pc := 8) rfl (s_aload_n rfl) ?_
  refine pe_go (pc := 9) rfl (s_iload_n rfl) ?_
  refine pe_call rfl (s_invV rfl (gA (oC_len hb) (mB_1 _ _ _)) rfl rfl) (c_hasNo (oC_len hb) S hz ho) ?_
  refine pe_go rfl (s_ifne_false rfl) ?_
  refine pe_go (pc := 16) rfl (s_iload_n rfl) ?_
  refine pe_go rfl (s_if_eq_f ⟨by decide, by decide⟩ (by decide)) ?_
  refine pe_go (pc := 20) rfl (s_iload_n rfl) ?_
  refine pe_go (pc := 21) rfl (s_iconst (z := 1) rfl) ?_
  refine pe_go rfl (s_icmp_eq_f ⟨by decide, by decide⟩ ⟨by decide, by decide⟩ (by decide)) ?_
  refine pe_go (pc := 25) rfl (s_iload_n rfl) ?_
  refine pe_go (pc := 26) rfl (s_iconst (z := 5) rfl) ?_
  refine pe_go rfl (s_icmp_ne_t ⟨by decide, by decide⟩ ⟨by decide, by decide⟩ (by decide)) ?_
  refine pe_go (pc := 35) rfl (s_iconst (z := -1) rfl) ?_
  exact pe_ret rfl s_reti ⟨rfl, rfl⟩
theorem o_ofN3 {pre post : pW} {b : Nat} (hb : pre.length = b) {S : St} {L M : List St} {K : St} {w : pW} (hO : OB pre post b S L M K w) {z : Int} (hz : sm z) (ho : S.noP z) : pRun 107 [.ref b, .int (iI z), .int (iI 3)] w (some (.int (iI (-1)))) w := by
  obtain ⟨hS, hLo, hLl, hMo, hMl, pn, pb, rn, rb, cl, kp, kr, rfl⟩ := hO
  refine qx_run ?_
  refine pc_run (lv := [(0, .ref b), (1, .int (iI z)), (2, .int (iI 3))]) rfl ?_
  refine pe_go (pc := 0) rfl (s_aload_n rfl) ?_
  refine pe_go (pc := 1) rfl (s_getf (v := .ref (b + 1)) (gO hb) rfl) ?_
  refine pe_go (pc := 4) rfl (s_getf (v := .ref (b + 1 + 1)) (gA0 (oC_len hb) (mB_0 _ _ _)) rfl) ?_
  refine pe_go (pc := 7) rfl (s_astore_n (lv' := [(3, .ref (b + 1 + 1)), (0, .ref b), (1, .int (iI z)), (2, .int (iI 3))]) rfl) ?_
  refine pe_go (pc := 8) rfl (s_aload_n rfl) ?_
  refine pe_go (pc := 9) rfl (s_iload_n rfl) ?_
  refine pe_call rfl (s_invV rfl (gA (oC_len hb) (mB_1 _ _ _)) rfl rfl) (c_hasNo (oC_len hb) S hz ho) ?_
  refine pe_go rfl (s_ifne_false rfl) ?_
  refine pe_go (pc := 16) rfl (s_iload_n rfl) ?_
  refine pe_go rfl (s_if_eq_f ⟨by decide, by decide⟩ (by decide)) ?_
  refine pe_go (pc := 20) rfl (s_iload_n rfl) ?_
  refine pe_go (pc := 21) rfl (s_iconst (z := 1) rfl) ?_
  refine pe_go rfl (s_icmp_eq_f ⟨by decide, by decide⟩ ⟨by decide, by decide⟩ (by decide)) ?_
  refine pe_go (pc := 25) rfl (s_iload_n rfl) ?_
  refine pe_go (pc := 26) rfl (s_iconst (z := 5) rfl) ?_
  refine pe_go rfl (s_icmp_ne_t ⟨by decide, by decide⟩ ⟨by decide, by decide⟩ (by decide)) ?_
  refine pe_go (pc := 35) rfl (s_iconst (z := -1) rfl) ?_
  exact pe_ret rfl s_reti ⟨rfl, rfl⟩
theorem o_ofN4 {pre post : pW} {b : Nat} (hb : pre.length = b) {S : St} {L M : List St} {K : St} {w : pW} (hO : OB pre post b S L M K w) {z : Int} (hz : sm z) (ho : S.noP z) : pRun 107 [.ref b, .int (iI z), .int (iI 4)] w (some (.int (iI (-1)))) w := by
  obtain ⟨hS, hLo, hLl, hMo, hMl, pn, pb, rn, rb, cl, kp, kr, rfl⟩ := hO
  refine qx_run ?_
  refine pc_run (lv := [(0, .ref b), (1, .int (iI z)), (2, .int (iI 4))]) rfl ?_
  refine pe_go (pc := 0) rfl (s_aload_n rfl) ?_
  refine pe_go (pc := 1) rfl (s_getf (v := .ref (b + 1)) (gO hb) rfl) ?_
  refine pe_go (pc := 4) rfl (s_getf (v := .ref (b + 1 + 1)) (gA0 (oC_len hb) (mB_0 _ _ _)) rfl) ?_
  refine pe_go (pc := 7) rfl (s_astore_n (lv' := [(3, .ref (b + 1 + 1)), (0, .ref b), (1, .int (iI z)), (2, .int (iI 4))]) rfl) ?_
  refine pe_go (pc := 8) rfl (s_aload_n rfl) ?_
  refine pe_go (pc := 9) rfl (s_iload_n rfl) ?_
  refine pe_call rfl (s_invV rfl (gA (oC_len hb) (mB_1 _ _ _)) rfl rfl) (c_hasNo (oC_len hb) S hz ho) ?_
  refine pe_go rfl (s_ifne_false rfl) ?_
  refine pe_go (pc := 16) rfl (s_iload_n rfl) ?_
  refine pe_go rfl (s_if_eq_f ⟨by decide, by decide⟩ (by decide)) ?_
  refine pe_go (pc := 20) rfl (s_iload_n rfl) ?_
  refine pe_go (pc := 21) rfl (s_iconst (z := 1) rfl) ?_
  refine pe_go rfl (s_icmp_eq_f ⟨by decide, by decide⟩ ⟨by decide, by decide⟩ (by decide)) ?_
  refine pe_go (pc := 25) rfl (s_iload_n rfl) ?_
  refine pe_go (pc := 26) rfl (s_iconst (z := 5) rfl) ?_
  refine pe_go rfl (s_icmp_ne_t ⟨by decide, by decide⟩ ⟨by decide, by decide⟩ (by decide)) ?_
  refine pe_go (pc := 35) rfl (s_iconst (z := -1) rfl) ?_
  exact pe_ret rfl s_reti ⟨rfl, rfl⟩
theorem o_ofN5 {pre post : pW} {b : Nat} (hb : pre.length = b) {S : St} {L M : List St} {K : St} {w : pW} (hO : OB pre post b S L M K w) {z : Int} (hz : sm z) (ho : S.noP z) : pRun 107 [.ref b, .int (iI z), .int (iI 5)] w (some (.int (iI (-100000)))) w := by
  obtain ⟨hS, hLo, hLl, hMo, hMl, pn, pb, rn, rb, cl, kp, kr, rfl⟩ := hO
  refine qx_run ?_
  refine pc_run (lv := [(0, .ref b), (1, .int (iI z)), (2, .int (iI 5))]) rfl ?_
  refine pe_go (pc := 0) rfl (s_aload_n rfl) ?_
  refine pe_go (pc := 1) rfl (s_getf (v := .ref (b + 1)) (gO hb) rfl) ?_
  refine pe_go (pc := 4) rfl (s_getf (v := .ref (b + 1 + 1)) (gA0 (oC_len hb) (mB_0 _ _ _)) rfl) ?_
  refine pe_go (pc := 7) rfl (s_astore_n (lv' := [(3, .ref (b + 1 + 1)), (0, .ref b), (1, .int (iI z)), (2, .int (iI 5))]) rfl) ?_
  refine pe_go (pc := 8) rfl (s_aload_n rfl) ?_
  refine pe_go (pc := 9) rfl (s_iload_n rfl) ?_
  refine pe_call rfl (s_invV rfl (gA (oC_len hb) (mB_1 _ _ _)) rfl rfl) (c_hasNo (oC_len hb) S hz ho) ?_
  refine pe_go rfl (s_ifne_false rfl) ?_
  refine pe_go (pc := 16) rfl (s_iload_n rfl) ?_
  refine pe_go rfl (s_if_eq_f ⟨by decide, by decide⟩ (by decide)) ?_
  refine pe_go (pc := 20) rfl (s_iload_n rfl) ?_
  refine pe_go (pc := 21) rfl (s_iconst (z := 1) rfl) ?_
  refine pe_go rfl (s_icmp_eq_f ⟨by decide, by decide⟩ ⟨by decide, by decide⟩ (by decide)) ?_
  refine pe_go (pc := 25) rfl (s_iload_n rfl) ?_
  refine pe_go (pc := 26) rfl (s_iconst (z := 5) rfl) ?_
  refine pe_go rfl (s_icmp_ne_f ⟨by decide, by decide⟩ ⟨by decide, by decide⟩ (by decide)) ?_
  refine pe_go (pc := 30) rfl (s_ldc (z := -100000) rfl) ?_
  refine pe_go (pc := 32) rfl s_goto ?_
  exact pe_ret rfl s_reti ⟨rfl, rfl⟩
theorem o_starN {pre post : pW} {b : Nat} (hb : pre.length = b) {S : St} {L M : List St} {K : St} {w : pW} (hO : OB pre post b S L M K w) {z : Int} (hz : sm z) (ho : S.noP z) {y : Int} : pRun 115 [.ref b, .int (iI z), .int (iI y)] w (some (.int (iI (-1)))) w := by
  obtain ⟨hS, hLo, hLl, hMo, hMl, pn, pb, rn, rb, cl, kp, kr, rfl⟩ := hO
  refine qx_run ?_
  refine pc_run (lv := [(0, .ref b), (1, .int (iI z)), (2, .int (iI y))]) rfl ?_
  refine pe_go (pc := 0) rfl (s_aload_n rfl) ?_
  refine pe_go (pc := 1) rfl (s_getf (v := .ref (b + 1)) (gO hb) rfl) ?_
  refine pe_go (pc := 4) rfl (s_getf (v := .ref (b + 1 + 1)) (gA0 (oC_len hb) (mB_0 _ _ _)) rfl) ?_
  refine pe_go (pc := 7) rfl (s_iload_n rfl) ?_
  refine pe_call rfl (s_invV rfl (gA (oC_len hb) (mB_1 _ _ _)) rfl rfl) (c_hasNo (oC_len hb) S hz ho) ?_
  refine pe_go rfl (s_ifeq_false rfl) ?_
  refine pe_go (pc := 18) rfl (s_iconst (z := -1) rfl) ?_
  exact pe_ret rfl s_reti ⟨rfl, rfl⟩
theorem o_colourN {pre post : pW} {b : Nat} (hb : pre.length = b) {S : St} {L M : List St} {K : St} {w : pW} (hO : OB pre post b S L M K w) {z : Int} (hz : sm z) (ho : S.noP z) : pRun 117 [.ref b, .int (iI z)] w (some (.int (iI (-1)))) w := by
  obtain ⟨hS, hLo, hLl, hMo, hMl, pn, pb, rn, rb, cl, kp, kr, rfl⟩ := hO
  refine qx_run ?_
  refine pc_run (lv := [(0, .ref b), (1, .int (iI z))]) rfl ?_
  refine pe_go (pc := 0) rfl (s_aload_n rfl) ?_
  refine pe_go (pc := 1) rfl (s_getf (v := .ref (b + 1)) (gO hb) rfl) ?_
  refine pe_go (pc := 4) rfl (s_getf (v := .ref (b + 1 + 1)) (gA0 (oC_len hb) (mB_0 _ _ _)) rfl) ?_
  refine pe_go (pc := 7) rfl (s_iload_n rfl) ?_
  refine pe_call rfl (s_invV rfl (gA (oC_len hb) (mB_1 _ _ _)) rfl rfl) (c_hasNo (oC_len hb) S hz ho) ?_
  refine pe_go rfl (s_ifne_false rfl) ?_
  refine pe_go (pc := 14) rfl (s_iconst (z := -1) rfl) ?_
  exact pe_ret rfl s_reti ⟨rfl, rfl⟩
theorem o_isEdge {pre post : pW} {b : Nat} (hb : pre.length = b) {S : St} {L M : List St} {K : St} {w : pW} (hO : OB pre post b S L M K w) {p q : Nat} (hp : p < 40) (hq : q < 40) : pRun 113 [.ref b, .int (iI (p : Int)), .int (iI (q : Int))] w (some (.int (bI (decide (S.has p ∧ S.has q ∧ bt (S.ne p) q = true))))) w := by
  obtain ⟨hS, hLo, hLl, hMo, hMl, pn, pb, rn, rb, cl, kp, kr, rfl⟩ := hO
  refine qx_run ?_
  refine pc_run (lv := [(0, .ref b), (1, .int (iI (p : Int))), (2, .int (iI (q : Int)))]) rfl ?_
  refine pe_go (pc := 0) rfl (s_aload_n rfl) ?_
  refine pe_go (pc := 1) rfl (s_getf (v := .ref (b + 1)) (gO hb) rfl) ?_
  refine pe_go (pc := 4) rfl (s_getf (v := .ref (b + 1 + 1)) (gA0 (oC_len hb) (mB_0 _ _ _)) rfl) ?_
  refine pe_go (pc := 7) rfl (s_iload_n rfl) ?_
  refine pe_call rfl (s_invV rfl (gA (oC_len hb) (mB_1 _ _ _)) rfl rfl) (c_has (oC_len hb) S hp) ?_
  by_cases b1 : S.has p
  · skip
    refine pe_go rfl (s_ifeq_true (decide_eq_true b1)) ?_
    refine pe_go (pc := 14) rfl (s_aload_n rfl) ?_
    refine pe_go (pc := 15) rfl (s_getf (v := .ref (b + 1)) (gO hb) rfl) ?_
    refine pe_go (pc := 18) rfl (s_getf (v := .ref (b + 1 + 1)) (gA0 (oC_len hb) (mB_0 _ _ _)) rfl) ?_
    refine pe_go (pc := 21) rfl (s_iload_n rfl) ?_
    refine pe_call rfl (s_invV rfl (gA (oC_len hb) (mB_1 _ _ _)) rfl rfl) (c_has (oC_len hb) S hq) ?_
    by_cases b2 : S.has q
    · skip
      refine pe_go rfl (s_ifeq_true (decide_eq_true b2)) ?_
      refine pe_go (pc := 28) rfl (s_aload_n rfl) ?_
      refine pe_go (pc := 29) rfl (s_getf (v := .ref (b + 1)) (gO hb) rfl) ?_
      refine pe_go (pc := 32) rfl (s_iload_n rfl) ?_
      refine pe_go (pc := 33) rfl (s_iload_n rfl) ?_
      refine pe_call rfl (s_invV rfl (gA0 (oC_len hb) (mB_0 _ _ _)) rfl rfl) (c_isNear (oC_len hb) S hp hq) ?_
      by_cases b3 : bt (S.ne p) q = true
      · skip
        refine pe_go rfl (s_ifeq_true (decide_eq_true b3)) ?_
        refine pe_go (pc := 40) rfl (s_iconst (z := 1) rfl) ?_
        refine pe_go (pc := 41) rfl s_goto ?_
        exact pe_ret rfl s_ret1 ⟨by rw [decide_eq_true (show S.has p ∧ S.has q ∧ bt (S.ne p) q = true from ⟨by assumption, by assumption, by assumption⟩)], rfl⟩
      · skip
        refine pe_go rfl (s_ifeq_false (decide_eq_false b3)) ?_
        refine pe_go (pc := 44) rfl (s_iconst (z := 0) rfl) ?_
        exact pe_ret rfl s_ret0 ⟨by rw [decide_eq_false (show ¬ (S.has p ∧ S.has q ∧ bt (S.ne p) q = true) from by rintro ⟨z1, z2, z3⟩; first | exact absurd z1 (by assumption) | exact absurd z2 (by assumption) | exact absurd z3 (by assumption))], rfl⟩
    · skip
      refine pe_go rfl (s_ifeq_false (decide_eq_false b2)) ?_
      refine pe_go (pc := 44) rfl (s_iconst (z := 0) rfl) ?_
      exact pe_ret rfl s_ret0 ⟨by rw [decide_eq_false (show ¬ (S.has p ∧ S.has q ∧ bt (S.ne p) q = true) from by rintro ⟨z1, z2, z3⟩; first | exact absurd z1 (by assumption) | exact absurd z2 (by assumption) | exact absurd z3 (by assumption))], rfl⟩
  · skip
    refine pe_go rfl (s_ifeq_false (decide_eq_false b1)) ?_
    refine pe_go (pc := 44) rfl (s_iconst (z := 0) rfl) ?_
    exact pe_ret rfl s_ret0 ⟨by rw [decide_eq_false (show ¬ (S.has p ∧ S.has q ∧ bt (S.ne p) q = true) from by rintro ⟨z1, z2, z3⟩; first | exact absurd z1 (by assumption) | exact absurd z2 (by assumption) | exact absurd z3 (by assumption))], rfl⟩
theorem o_isFixed {pre post : pW} {b : Nat} (hb : pre.length = b) {S : St} {L M : List St} {K : St} {w : pW} (hO : OB pre post b S L M K w) {p q : Nat} (hp : p < 40) (hq : q < 40) : pRun 114 [.ref b, .int (iI (p : Int)), .int (iI (q : Int))] w (some (.int (bI (decide (S.has p ∧ S.has q ∧ S.bound p q))))) w := by
  obtain ⟨hS, hLo, hLl, hMo, hMl, pn, pb, rn, rb, cl, kp, kr, rfl⟩ := hO
  refine qx_run ?_
  refine pc_run (lv := [(0, .ref b), (1, .int (iI (p : Int))), (2, .int (iI (q : Int)))]) rfl ?_
  refine pe_go (pc := 0) rfl (s_aload_n rfl) ?_
  refine pe_go (pc := 1) rfl (s_getf (v := .ref (b + 1)) (gO hb) rfl) ?_
  refine pe_go (pc := 4) rfl (s_getf (v := .ref (b + 1 + 1)) (gA0 (oC_len hb) (mB_0 _ _ _)) rfl) ?_
  refine pe_go (pc := 7) rfl (s_iload_n rfl) ?_
  refine pe_call rfl (s_invV rfl (gA (oC_len hb) (mB_1 _ _ _)) rfl rfl) (c_has (oC_len hb) S hp) ?_
  by_cases b1 : S.has p
  · skip
    refine pe_go rfl (s_ifeq_true (decide_eq_true b1)) ?_
    refine pe_go (pc := 14) rfl (s_aload_n rfl) ?_
    refine pe_go (pc := 15) rfl (s_getf (v := .ref (b + 1)) (gO hb) rfl) ?_
    refine pe_go (pc := 18) rfl (s_getf (v := .ref (b + 1 + 1)) (gA0 (oC_len hb) (mB_0 _ _ _)) rfl) ?_
    refine pe_go (pc := 21) rfl (s_iload_n rfl) ?_
    refine pe_call rfl (s_invV rfl (gA (oC_len hb) (mB_1 _ _ _)) rfl rfl) (c_has (oC_len hb) S hq) ?_
    by_cases b2 : S.has q
    · skip
      refine pe_go rfl (s_ifeq_true (decide_eq_true b2)) ?_
      refine pe_go (pc := 28) rfl (s_aload_n rfl) ?_
      refine pe_go (pc := 29) rfl (s_getf (v := .ref (b + 1)) (gO hb) rfl) ?_
      refine pe_go (pc := 32) rfl (s_getf (v := .ref (b + 1 + 1)) (gA0 (oC_len hb) (mB_0 _ _ _)) rfl) ?_
      refine pe_go (pc := 35) rfl (s_iload_n rfl) ?_
      refine pe_go (pc := 36) rfl (s_iload_n rfl) ?_
      refine pe_call rfl (s_invV rfl (gA (oC_len hb) (mB_1 _ _ _)) rfl rfl) (c_isBound (oC_len hb) S hp hq) ?_
      by_cases b3 : S.bound p q
      · skip
        refine pe_go rfl (s_ifeq_true (decide_eq_true b3)) ?_
        refine pe_go (pc := 43) rfl (s_iconst (z := 1) rfl) ?_
        refine pe_go (pc := 44) rfl s_goto ?_
        exact pe_ret rfl s_ret1 ⟨by rw [decide_eq_true (show S.has p ∧ S.has q ∧ S.bound p q from ⟨by assumption, by assumption, by assumption⟩)], rfl⟩
      · skip
        refine pe_go rfl (s_ifeq_false (decide_eq_false b3)) ?_
        refine pe_go (pc := 47) rfl (s_iconst (z := 0) rfl) ?_
        exact pe_ret rfl s_ret0 ⟨by rw [decide_eq_false (show ¬ (S.has p ∧ S.has q ∧ S.bound p q) from by rintro ⟨z1, z2, z3⟩; first | exact absurd z1 (by assumption) | exact absurd z2 (by assumption) | exact absurd z3 (by assumption))], rfl⟩
    · skip
      refine pe_go rfl (s_ifeq_false (decide_eq_false b2)) ?_
      refine pe_go (pc := 47) rfl (s_iconst (z := 0) rfl) ?_
      exact pe_ret rfl s_ret0 ⟨by rw [decide_eq_false (show ¬ (S.has p ∧ S.has q ∧ S.bound p q) from by rintro ⟨z1, z2, z3⟩; first | exact absurd z1 (by assumption) | exact absurd z2 (by assumption) | exact absurd z3 (by assumption))], rfl⟩
  · skip
    refine pe_go rfl (s_ifeq_false (decide_eq_false b1)) ?_
    refine pe_go (pc := 47) rfl (s_iconst (z := 0) rfl) ?_
    exact pe_ret rfl s_ret0 ⟨by rw [decide_eq_false (show ¬ (S.has p ∧ S.has q ∧ S.bound p q) from by rintro ⟨z1, z2, z3⟩; first | exact absurd z1 (by assumption) | exact absurd z2 (by assumption) | exact absurd z3 (by assumption))], rfl⟩
theorem o_triangle {pre post : pW} {b : Nat} (hb : pre.length = b) {S : St} {L M : List St} {K : St} {w : pW} (hO : OB pre post b S L M K w) {p q c : Nat} (hp : p < 40) (hq : q < 40) (hc : c < 40) (sp : S.has p) (sq : S.has q) (sc : S.has c) (h1 : S.ap (p * 40 + q) ≠ (c : Int)) (h2 : S.ap (q * 40 + p) = (c : Int)) : pRun 112 [.ref b, .int (iI (p : Int)), .int (iI (q : Int)), .int (iI (c : Int))] w (some (.int (iI (S.ow (q * 40 + p))))) w := by
  obtain ⟨hS, hLo, hLl, hMo, hMl, pn, pb, rn, rb, cl, kp, kr, rfl⟩ := hO
  refine qx_run ?_
  have a1 := hS.I.A (p * 40 + q) (by omega)
  have a2 := hS.I.A (q * 40 + p) (by omega)
  refine pc_run (lv := [(0, .ref b), (1, .int (iI (p : Int))), (2, .int (iI (q : Int))), (3, .int (iI (c : Int)))]) rfl ?_
  refine pe_go (pc := 0) rfl (s_aload_n rfl) ?_
  refine pe_go (pc := 1) rfl (s_getf (v := .ref (b + 1)) (gO hb) rfl) ?_
  refine pe_go (pc := 4) rfl (s_getf (v := .ref (b + 1 + 1)) (gA0 (oC_len hb) (mB_0 _ _ _)) rfl) ?_
  refine pe_go (pc := 7) rfl (s_iload_n rfl) ?_
  refine pe_call rfl (s_invV rfl (gA (oC_len hb) (mB_1 _ _ _)) rfl rfl) (c_has (oC_len hb) S hp) ?_
  refine pe_go rfl (s_ifeq_true (decide_eq_true sp)) ?_
  refine pe_go (pc := 14) rfl (s_aload_n rfl) ?_
  refine pe_go (pc := 15) rfl (s_getf (v := .ref (b + 1)) (gO hb) rfl) ?_
  refine pe_go (pc := 18) rfl (s_getf (v := .ref (b + 1 + 1)) (gA0 (oC_len hb) (mB_0 _ _ _)) rfl) ?_
  refine pe_go (pc := 21) rfl (s_iload_n rfl) ?_
  refine pe_call rfl (s_invV rfl (gA (oC_len hb) (mB_1 _ _ _)) rfl rfl) (c_has (oC_len hb) S hq) ?_
  refine pe_go rfl (s_ifeq_true (decide_eq_true sq)) ?_
  refine pe_go (pc := 28) rfl (s_aload_n rfl) ?_
  refine pe_go (pc := 29) rfl (s_getf (v := .ref (b + 1)) (gO hb) rfl) ?_
  refine pe_go (pc := 32) rfl (s_getf (v := .ref (b + 1 + 1)) (gA0 (oC_len hb) (mB_0 _ _ _)) rfl) ?_
  refine pe_go (pc := 35) rfl (s_iload_n rfl) ?_
  refine pe_call rfl (s_invV rfl (gA (oC_len hb) (mB_1 _ _ _)) rfl rfl) (c_has (oC_len hb) S hc) ?_
  refine pe_go rfl (s_ifne_true (decide_eq_true sc)) ?_
  refine pe_go (pc := 44) rfl (s_aload_n rfl) ?_
  refine pe_go (pc := 45) rfl (s_getf (v := .ref (b + 1)) (gO hb) rfl) ?_
  refine pe_go (pc := 48) rfl (s_getf (v := .ref (b + 1 + 8)) (gA0 (oC_len hb) (mB_0 _ _ _)) rfl) ?_
  refine pe_go (pc := 51) rfl (s_iload_n rfl) ?_
  refine pe_go (pc := 52) rfl (s_bipush (z := 40) rfl) ?_
  refine pe_go (pc := 54) rfl s_imul ?_
  refine pe_go (pc := 55) rfl (s_iload_n rfl) ?_
  refine pe_go (pc := 56) rfl s_iadd ?_
  refine pe_go (pc := 57) rfl (s_iald (n := 1600) (f := S.ap) (v := S.ap ((p * 40) + q)) (gA (oC_len hb) (mB_ap _ _ _)) (k := (p * 40) + q) (by omega) (by omega) (by decide) rfl) ?_
  refine pe_go (pc := 58) rfl (s_iload_n rfl) ?_
  refine pe_go rfl (s_icmp_ne_t ⟨by omega, by omega⟩ ⟨by omega, by omega⟩ h1) ?_
  refine pe_go (pc := 77) rfl (s_aload_n rfl) ?_
  refine pe_go (pc := 78) rfl (s_getf (v := .ref (b + 1)) (gO hb) rfl) ?_
  refine pe_go (pc := 81) rfl (s_getf (v := .ref (b + 1 + 8)) (gA0 (oC_len hb) (mB_0 _ _ _)) rfl) ?_
  refine pe_go (pc := 84) rfl (s_iload_n rfl) ?_
  refine pe_go (pc := 85) rfl (s_bipush (z := 40) rfl) ?_
  refine pe_go (pc := 87) rfl s_imul ?_
  refine pe_go (pc := 88) rfl (s_iload_n rfl) ?_
  refine pe_go (pc := 89) rfl s_iadd ?_
  refine pe_go (pc := 90) rfl (s_iald (n := 1600) (f := S.ap) (v := S.ap ((q * 40) + p)) (gA (oC_len hb) (mB_ap _ _ _)) (k := (q * 40) + p) (by omega) (by omega) (by decide) rfl) ?_
  refine pe_go (pc := 91) rfl (s_iload_n rfl) ?_
  refine pe_go rfl (s_icmp_ne_f ⟨by omega, by omega⟩ ⟨by omega, by omega⟩ (fun z => z h2)) ?_
  refine pe_go (pc := 95) rfl (s_aload_n rfl) ?_
  refine pe_go (pc := 96) rfl (s_getf (v := .ref (b + 1)) (gO hb) rfl) ?_
  refine pe_go (pc := 99) rfl (s_getf (v := .ref (b + 1 + 9)) (gA0 (oC_len hb) (mB_0 _ _ _)) rfl) ?_
  refine pe_go (pc := 102) rfl (s_iload_n rfl) ?_
  refine pe_go (pc := 103) rfl (s_bipush (z := 40) rfl) ?_
  refine pe_go (pc := 105) rfl s_imul ?_
  refine pe_go (pc := 106) rfl (s_iload_n rfl) ?_
  refine pe_go (pc := 107) rfl s_iadd ?_
  refine pe_go (pc := 108) rfl (s_iald (n := 1600) (f := S.ow) (v := S.ow ((q * 40) + p)) (gA (oC_len hb) (mB_ow _ _ _)) (k := (q * 40) + p) (by omega) (by omega) (by decide) rfl) ?_
  exact pe_ret rfl s_reti ⟨rfl, rfl⟩
theorem o_thinnest {pre post : pW} {b : Nat} (hb : pre.length = b) {S : St} {L M : List St} {K : St} {w : pW} (hO : OB pre post b S L M K w) {T : Nat} (hT : S.tn = (T : Int)) (hT2 : T ≤ 74) (hT0 : 0 < T) : pRun 116 [.ref b] w (some (.int (iI ((S.thF (T - 1) 1 0 : Nat) : Int)))) w := by
  obtain ⟨hS, hLo, hLl, hMo, hMl, pn, pb, rn, rb, cl, kp, kr, rfl⟩ := hO
  refine qx_run ?_
  refine pc_run (lv := [(0, .ref b)]) rfl ?_
  refine pe_go (pc := 0) rfl (s_aload_n rfl) ?_
  refine pe_go (pc := 1) rfl (s_getf (v := .ref (b + 1)) (gO hb) rfl) ?_
  refine pe_call rfl (s_invV rfl (gA0 (oC_len hb) (mB_0 _ _ _)) rfl rfl) (c_thinnest (oC_len hb) S hT hT2 hT0 hS.I.CN.1 hS.B) ?_
  exact pe_ret rfl s_reti ⟨rfl, rfl⟩
