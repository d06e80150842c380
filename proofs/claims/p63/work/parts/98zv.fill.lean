/-! THE LAW: one turn: a hole forgotten. Rows laid by program (wip/p63/wk.py, hw.py, lawcase.py, mk98zv.py). -/
theorem l_fill1 {w : pW} {b n0 : Nat} (hbn : b + 57 ≤ n0) {S : St} {L M : List St} {K : St} (hk : obk w b S L M K) {c : Nat} {X : Sh} (hu : shAt w (fun i => n0 ≤ i) (fun i => ¬ inO b i) c X) (hR : Rel S X) (hlw : n0 ≤ w.length) {k n ws aw s : Nat} {x y px py grid what : Int} {Φ : Option Value → pW → Prop} {p q inn : Int} (h0 : 0 < X.2.2.1) (KK : ∀ w' : pW, obk w' b (S.u_hn (S.hn - 1)) (pshL S L) M K → chg b w w' → qE 158 (1402, [(16, .int (iI inn)), (15, .int (iI what)), (14, .int (iI q)), (13, .int (iI p)), (12, .int (iI py)), (11, .int (iI px)), (10, .int (iI grid)), (9, .int (iI 1)), (8, .ref c), (7, .int (iI y)), (6, .int (iI x)), (5, .int (iI (k : Int))), (4, .int (iI (n : Int))), (3, .ref ws), (2, .ref aw), (1, .ref b), (0, .ref s)], [], w') Φ) : qE 158 (1360, [(16, .int (iI inn)), (15, .int (iI what)), (14, .int (iI q)), (13, .int (iI p)), (12, .int (iI py)), (11, .int (iI px)), (10, .int (iI grid)), (9, .int (iI 1)), (8, .ref c), (7, .int (iI y)), (6, .int (iI x)), (5, .int (iI (k : Int))), (4, .int (iI (n : Int))), (3, .ref ws), (2, .ref aw), (1, .ref b), (0, .ref s)], [], w) Φ := by
  have hko := obk_ok hk
  have hIn := hR.In hko
  have hX9 := hIn.1
  obtain ⟨fb, hbo⟩ := obk_obj hk
  obtain ⟨fc, hco⟩ := sh_obj hu
  have hfs := Sh.free_sm X
  have has := Sh.at_sm X px py
  obtain ⟨pa, fa, ha, pf, gf, hf, ff, hP⟩ := id hu
  have hX8 := hP.2.2.2.2.2.2.2.2.2.1
  have ehn := hR.2.2.2.1
  refine pe_go (pc := 1360) rfl (s_aload rfl) ?_
  refine pe_go (pc := 1362) rfl (s_getf (v := .ref ha) hP.2.1 rfl) ?_
  refine pe_go (pc := 1365) rfl (s_alenR (kd := 0) ⟨hP.2.2.2.2.2.2.2.2.1, by decide⟩) ?_
  refine pe_go rfl (s_if_le_f ⟨by omega, by omega⟩ (by omega)) ?_
  refine pe_go (pc := 1369) rfl (s_iconst (z := 1) rfl) ?_
  refine pe_go (pc := 1370) rfl s_goto ?_
  refine pe_go (pc := 1374) rfl (s_istore (lv' := [(9, .int (iI 1)), (16, .int (iI inn)), (15, .int (iI what)), (14, .int (iI q)), (13, .int (iI p)), (12, .int (iI py)), (11, .int (iI px)), (10, .int (iI grid)), (8, .ref c), (7, .int (iI y)), (6, .int (iI x)), (5, .int (iI (k : Int))), (4, .int (iI (n : Int))), (3, .ref ws), (2, .ref aw), (1, .ref b), (0, .ref s)]) rfl) ?_
  refine pe_go (pc := 1376) rfl (s_aload_n rfl) ?_
  refine pe_callE rfl (s_invV rfl hbo rfl rfl) (k_fillY hk (by omega)) ?_
  rintro _ w1 ⟨rfl, ho1, hc1⟩
  obtain ⟨pa2, fa2, ha2, pf2, gf2, hf2, ff2, hP2⟩ := sh_chg hbn hu hc1
  refine pe_go (pc := 1380) rfl (s_iload rfl) ?_
  refine pe_go rfl (s_if_eq_f ⟨by decide, by decide⟩ (by decide)) ?_
  refine pe_go (pc := 1385) rfl (s_aload rfl) ?_
  refine pe_go (pc := 1387) rfl (s_getf (v := .ref ha2) hP2.2.1 rfl) ?_
  refine pe_go (pc := 1390) rfl (s_alenR (kd := 0) ⟨hP2.2.2.2.2.2.2.2.2.1, by decide⟩) ?_
  refine pe_go (pc := 1391) rfl (s_iconst (z := 1) rfl) ?_
  refine pe_go (pc := 1392) rfl s_isub ?_
  refine pe_go (pc := 1393) rfl s_goto ?_
  refine pe_go rfl (s_icmp_eq_t ⟨by omega, by omega⟩ ⟨by omega, by omega⟩ (by omega)) ?_
  refine pe_few (lv := [(16, .int (iI inn)), (15, .int (iI what)), (14, .int (iI q)), (13, .int (iI p)), (12, .int (iI py)), (11, .int (iI px)), (10, .int (iI grid)), (9, .int (iI 1)), (8, .ref c), (7, .int (iI y)), (6, .int (iI x)), (5, .int (iI (k : Int))), (4, .int (iI (n : Int))), (3, .ref ws), (2, .ref aw), (1, .ref b), (0, .ref s)]) rfl rfl (by intro q hq; simp only [List.mem_cons, List.not_mem_nil, or_false] at hq; rcases hq with rfl | rfl | rfl | rfl | rfl | rfl | rfl | rfl | rfl | rfl | rfl | rfl | rfl | rfl | rfl | rfl | rfl <;> rfl) ?_
  exact KK _ ho1 hc1
theorem l_fill0 {w : pW} {b n0 : Nat} (hbn : b + 57 ≤ n0) {S : St} {L M : List St} {K : St} (hk : obk w b S L M K) {c : Nat} {X : Sh} (hu : shAt w (fun i => n0 ≤ i) (fun i => ¬ inO b i) c X) (hR : Rel S X) (hlw : n0 ≤ w.length) {k n ws aw s : Nat} {x y px py grid what : Int} {Φ : Option Value → pW → Prop} {p q inn : Int} (h0 : ¬ 0 < X.2.2.1) (KK : ∀ w' : pW, obk w' b S L M K → chg b w w' → qE 158 (1402, [(16, .int (iI inn)), (15, .int (iI what)), (14, .int (iI q)), (13, .int (iI p)), (12, .int (iI py)), (11, .int (iI px)), (10, .int (iI grid)), (9, .int (iI 0)), (8, .ref c), (7, .int (iI y)), (6, .int (iI x)), (5, .int (iI (k : Int))), (4, .int (iI (n : Int))), (3, .ref ws), (2, .ref aw), (1, .ref b), (0, .ref s)], [], w') Φ) : qE 158 (1360, [(16, .int (iI inn)), (15, .int (iI what)), (14, .int (iI q)), (13, .int (iI p)), (12, .int (iI py)), (11, .int (iI px)), (10, .int (iI grid)), (9, .int (iI 1)), (8, .ref c), (7, .int (iI y)), (6, .int (iI x)), (5, .int (iI (k : Int))), (4, .int (iI (n : Int))), (3, .ref ws), (2, .ref aw), (1, .ref b), (0, .ref s)], [], w) Φ := by
  have hko := obk_ok hk
  have hIn := hR.In hko
  have hX9 := hIn.1
  obtain ⟨fb, hbo⟩ := obk_obj hk
  obtain ⟨fc, hco⟩ := sh_obj hu
  have hfs := Sh.free_sm X
  have has := Sh.at_sm X px py
  obtain ⟨pa, fa, ha, pf, gf, hf, ff, hP⟩ := id hu
  have hX8 := hP.2.2.2.2.2.2.2.2.2.1
  have ehn := hR.2.2.2.1
  refine pe_go (pc := 1360) rfl (s_aload rfl) ?_
  refine pe_go (pc := 1362) rfl (s_getf (v := .ref ha) hP.2.1 rfl) ?_
  refine pe_go (pc := 1365) rfl (s_alenR (kd := 0) ⟨hP.2.2.2.2.2.2.2.2.1, by decide⟩) ?_
  refine pe_go rfl (s_if_le_t ⟨by omega, by omega⟩ (by omega)) ?_
  refine pe_go (pc := 1373) rfl (s_iconst (z := 0) rfl) ?_
  refine pe_go (pc := 1374) rfl (s_istore (lv' := [(9, .int (iI 0)), (16, .int (iI inn)), (15, .int (iI what)), (14, .int (iI q)), (13, .int (iI p)), (12, .int (iI py)), (11, .int (iI px)), (10, .int (iI grid)), (8, .ref c), (7, .int (iI y)), (6, .int (iI x)), (5, .int (iI (k : Int))), (4, .int (iI (n : Int))), (3, .ref ws), (2, .ref aw), (1, .ref b), (0, .ref s)]) rfl) ?_
  refine pe_go (pc := 1376) rfl (s_aload_n rfl) ?_
  refine pe_callE rfl (s_invV rfl hbo rfl rfl) (k_fillN hk (by omega)) ?_
  rintro _ w1 ⟨rfl, ho1, hc1⟩
  refine pe_go (pc := 1380) rfl (s_iload rfl) ?_
  refine pe_go rfl (s_if_eq_t ⟨by decide, by decide⟩ (by decide)) ?_
  refine pe_go (pc := 1396) rfl (s_iconst (z := -1) rfl) ?_
  refine pe_go rfl (s_icmp_eq_t ⟨by decide, by decide⟩ ⟨by decide, by decide⟩ (by decide)) ?_
  refine pe_few (lv := [(16, .int (iI inn)), (15, .int (iI what)), (14, .int (iI q)), (13, .int (iI p)), (12, .int (iI py)), (11, .int (iI px)), (10, .int (iI grid)), (9, .int (iI 0)), (8, .ref c), (7, .int (iI y)), (6, .int (iI x)), (5, .int (iI (k : Int))), (4, .int (iI (n : Int))), (3, .ref ws), (2, .ref aw), (1, .ref b), (0, .ref s)]) rfl rfl (by intro q hq; simp only [List.mem_cons, List.not_mem_nil, or_false] at hq; rcases hq with rfl | rfl | rfl | rfl | rfl | rfl | rfl | rfl | rfl | rfl | rfl | rfl | rfl | rfl | rfl | rfl | rfl <;> rfl) ?_
  exact KK _ ho1 hc1
theorem l_f1402 {w : pW} {O Q : Nat → Prop} {c : Nat} {X : Sh} {pa fa ha : Nat} {pf gf hf : Nat → Option Nat} {ff : Nat → Nat} (hP : shP w O Q c X pa fa ha pf gf hf ff) {b k n ws aw s : Nat} {x y px py grid what p q inn dn : Int} {Φ : Option Value → pW → Prop} (KK : qE 158 (1414, [(16, .int (iI inn)), (15, .int (iI what)), (14, .int (iI q)), (13, .int (iI p)), (12, .int (iI py)), (11, .int (iI px)), (10, .int (iI grid)), (9, .int (iI dn)), (8, .ref c), (7, .int (iI y)), (6, .int (iI x)), (5, .int (iI (k : Int))), (4, .int (iI (n : Int))), (3, .ref ws), (2, .ref aw), (1, .ref b), (0, .ref s)], [.int (iI (zmax 0 (((X.2.2.1 : Nat) : Int) - 1)))], w) Φ) : qE 158 (1402, [(16, .int (iI inn)), (15, .int (iI what)), (14, .int (iI q)), (13, .int (iI p)), (12, .int (iI py)), (11, .int (iI px)), (10, .int (iI grid)), (9, .int (iI dn)), (8, .ref c), (7, .int (iI y)), (6, .int (iI x)), (5, .int (iI (k : Int))), (4, .int (iI (n : Int))), (3, .ref ws), (2, .ref aw), (1, .ref b), (0, .ref s)], [], w) Φ := by
  have hX8 := hP.2.2.2.2.2.2.2.2.2.1
  refine pe_go (pc := 1402) rfl (s_iconst (z := 0) rfl) ?_
  refine pe_go (pc := 1403) rfl (s_aload rfl) ?_
  refine pe_go (pc := 1405) rfl (s_getf (v := .ref ha) hP.2.1 rfl) ?_
  refine pe_go (pc := 1408) rfl (s_alenR (kd := 0) ⟨hP.2.2.2.2.2.2.2.2.1, by decide⟩) ?_
  refine pe_go (pc := 1409) rfl (s_iconst (z := 1) rfl) ?_
  refine pe_go (pc := 1410) rfl s_isub ?_
  refine pe_call rfl (s_invS rfl rfl rfl) (c_max (x := 0) (y := ((X.2.2.1 : Nat) : Int) - 1) ⟨by decide, by decide⟩ ⟨by omega, by omega⟩) ?_
  refine pe_few (lv := [(16, .int (iI inn)), (15, .int (iI what)), (14, .int (iI q)), (13, .int (iI p)), (12, .int (iI py)), (11, .int (iI px)), (10, .int (iI grid)), (9, .int (iI dn)), (8, .ref c), (7, .int (iI y)), (6, .int (iI x)), (5, .int (iI (k : Int))), (4, .int (iI (n : Int))), (3, .ref ws), (2, .ref aw), (1, .ref b), (0, .ref s)]) rfl rfl (by intro q hq; simp only [List.mem_cons, List.not_mem_nil, or_false] at hq; rcases hq with rfl | rfl | rfl | rfl | rfl | rfl | rfl | rfl | rfl | rfl | rfl | rfl | rfl | rfl | rfl | rfl | rfl <;> rfl) ?_
  exact KK
theorem l_f1449_1 {w : pW} {c m : Nat} {b k n ws aw s : Nat} {x y px py grid what p q inn dn : Int} {Φ : Option Value → pW → Prop} (KK : qE 158 (1453, [(9, .int (iI 1)), (8, .ref c), (5, .int (iI (k : Int))), (4, .int (iI (n : Int))), (3, .ref ws), (2, .ref aw), (1, .ref b), (0, .ref s)], [.ref m, .ref c], w) Φ) : qE 158 (1449, [(17, .ref m), (16, .int (iI inn)), (15, .int (iI what)), (14, .int (iI q)), (13, .int (iI p)), (12, .int (iI py)), (11, .int (iI px)), (10, .int (iI grid)), (9, .int (iI 1)), (8, .ref c), (7, .int (iI y)), (6, .int (iI x)), (5, .int (iI (k : Int))), (4, .int (iI (n : Int))), (3, .ref ws), (2, .ref aw), (1, .ref b), (0, .ref s)], [], w) Φ := by
  refine pe_go (pc := 1449) rfl (s_aload rfl) ?_
  refine pe_go (pc := 1451) rfl (s_aload rfl) ?_
  refine pe_few (lv := [(9, .int (iI 1)), (8, .ref c), (5, .int (iI (k : Int))), (4, .int (iI (n : Int))), (3, .ref ws), (2, .ref aw), (1, .ref b), (0, .ref s)]) rfl rfl (by intro q hq; simp only [List.mem_cons, List.not_mem_nil, or_false] at hq; rcases hq with rfl | rfl | rfl | rfl | rfl | rfl | rfl | rfl <;> rfl) ?_
  exact KK
theorem l_f1449_0 {w : pW} {c m : Nat} {b k n ws aw s : Nat} {x y px py grid what p q inn dn : Int} {Φ : Option Value → pW → Prop} (KK : qE 158 (1453, [(9, .int (iI 0)), (8, .ref c), (5, .int (iI (k : Int))), (4, .int (iI (n : Int))), (3, .ref ws), (2, .ref aw), (1, .ref b), (0, .ref s)], [.ref m, .ref c], w) Φ) : qE 158 (1449, [(17, .ref m), (16, .int (iI inn)), (15, .int (iI what)), (14, .int (iI q)), (13, .int (iI p)), (12, .int (iI py)), (11, .int (iI px)), (10, .int (iI grid)), (9, .int (iI 0)), (8, .ref c), (7, .int (iI y)), (6, .int (iI x)), (5, .int (iI (k : Int))), (4, .int (iI (n : Int))), (3, .ref ws), (2, .ref aw), (1, .ref b), (0, .ref s)], [], w) Φ := by
  refine pe_go (pc := 1449) rfl (s_aload rfl) ?_
  refine pe_go (pc := 1451) rfl (s_aload rfl) ?_
  refine pe_few (lv := [(9, .int (iI 0)), (8, .ref c), (5, .int (iI (k : Int))), (4, .int (iI (n : Int))), (3, .ref ws), (2, .ref aw), (1, .ref b), (0, .ref s)]) rfl rfl (by intro q hq; simp only [List.mem_cons, List.not_mem_nil, or_false] at hq; rcases hq with rfl | rfl | rfl | rfl | rfl | rfl | rfl | rfl <;> rfl) ?_
  exact KK
theorem l_case11_1 {w : pW} {b n0 : Nat} (hbn : b + 57 ≤ n0) {S : St} {L M : List St} {K : St} (hk : obk w b S L M K) {c : Nat} {X : Sh} (hu : shAt w (fun i => n0 ≤ i) (fun i => ¬ inO b i) c X) (hR : Rel S X) (hlw : n0 ≤ w.length) {k n ws aw s : Nat} {x y px py grid what : Int} {Φ : Option Value → pW → Prop} {p q inn : Int} (h0 : 0 < X.2.2.1) (KKd : ∀ (w' : pW) (S' : St) (X' : Sh), obk w' b S' (pshL S L) M K → Rel S' X' → shAt w' (fun i => n0 ≤ i) (fun i => ¬ inO b i) c X' → agr (fun i => inO b i ∨ n0 ≤ i) w w' → gro 2000 (2 * pwsz (nP 0) + 12000) w w' → qE 158 (1559, [(9, .int (iI 1)), (8, .ref c), (5, .int (iI (k : Int))), (4, .int (iI (n : Int))), (3, .ref ws), (2, .ref aw), (1, .ref b), (0, .ref s)], [], w') Φ) : qE 158 (1360, [(16, .int (iI inn)), (15, .int (iI what)), (14, .int (iI q)), (13, .int (iI p)), (12, .int (iI py)), (11, .int (iI px)), (10, .int (iI grid)), (9, .int (iI 1)), (8, .ref c), (7, .int (iI y)), (6, .int (iI x)), (5, .int (iI (k : Int))), (4, .int (iI (n : Int))), (3, .ref ws), (2, .ref aw), (1, .ref b), (0, .ref s)], [], w) Φ := by
  refine l_fill1 hbn hk hu hR hlw h0 (fun w1 ho hc => ?_)
  obtain ⟨pa, fa, ha, pf, gf, hf, ff, hP⟩ := sh_chg hbn hu hc
  have hX8 := hP.2.2.2.2.2.2.2.2.2.1
  refine l_f1402 hP ?_
  refine pe_go (pc := 1414) rfl (s_newR (n := X.2.2.1 - 1) (by unfold zmax; split <;> omega) (by omega)) ?_
  refine l_h1417 ?_
  refine l_fcopy (m := w1.length) rfl hP (fun gg hg => ?_) (X.2.2.1 - 1) 0 (fun _ => none) (by omega) (fun j hj => absurd hj (Nat.not_lt_zero j))
  refine l_f1449_1 (dn := 1) ?_
  have hP2 := sh_app hP [.inl (3, X.2.2.1 - 1, rfs gg)]
  have hm2 : (w1 ++ [(.inl (3, X.2.2.1 - 1, rfs gg) : pCell)])[w1.length]? = some (.inl (3, X.2.2.1 - 1, rfs gg)) := get_end rfl
  have hl2 : (w1 ++ [(.inl (3, X.2.2.1 - 1, rfs gg) : pCell)]).length = w1.length + 1 := by rw [List.length_append]; rfl
  have hz2 : pwsz (w1 ++ [(.inl (3, X.2.2.1 - 1, rfs gg) : pCell)]) = pwsz w1 + (X.2.2.1 - 1) := by
    rw [pwsz_app]
    show pwsz w1 + ((X.2.2.1 - 1) + 0) = _
    rw [Nat.add_zero]
  have hA : agr (fun i => n0 ≤ i) w1 (w1 ++ [(.inl (3, X.2.2.1 - 1, rfs gg) : pCell)]) := agr_app
  generalize w1 ++ [(.inl (3, X.2.2.1 - 1, rfs gg) : pCell)] = w2 at hP2 hm2 hl2 hz2 hA ⊢
  have hlc := hc.2.1
  have hlz := hc.2.2
  have hnew : ∀ j : Nat, w1.length ≤ j → ¬ inO b j := fun j hj z => by have := z.2; omega
  have hpa := get_lt hP.2.2.1
  have hfa := get_lt hP.2.2.2.2.2.1
  have hP3 := sh_holes hP2 hm2 (hnew _ (Nat.le_refl _)) (by omega) (by omega) (by omega) (fun j hj => by
    obtain ⟨r, x, y, r1, r2, r3, r4⟩ := hP2.2.2.2.2.2.2.2.2.2.2 j (by omega)
    exact ⟨r, x, y, (hg j hj).trans r1, r2, r3, r4⟩)
  refine pe_go (pc := 1453) rfl (s_putf hP2.2.1 (Nat.le_of_ble_eq_true rfl) rfl rfl) ?_
  refine pe_go (pc := 1456) rfl s_goto ?_
  have hA3 : agr (fun i => n0 ≤ i) w2 (w2.set c (.inr (9, [.ref pa, .ref fa, .ref w1.length, .int (iI X.2.2.2)]))) := agr_set hP.1.1
  have hG3 := gro_set (c' := .inr (9, [.ref pa, .ref fa, .ref w1.length, .int (iI X.2.2.2)])) hP2.2.1 rfl
  have hRn := Rel.hn hR (X.2.2.1 - 1)
  rw [show ((X.2.2.1 - 1 : Nat) : Int) = S.hn - 1 by have := hR.2.2.2.1; omega] at hRn
  refine KKd _ _ (X.1, X.2.1, X.2.2.1 - 1, X.2.2.2) (obk_own hbn (obk_own hbn ho hA) hA3) hRn ⟨_, _, _, _, _, _, _, hP3⟩ (P_trans (P_chg hc) (P_own (P_trans hA hA3))) (gro_mono (n := 1) (m := 7) (gro_trans (n := 1) (m := 7) ⟨by omega, by omega⟩ hG3) (by decide) (by omega))
theorem l_case11_0 {w : pW} {b n0 : Nat} (hbn : b + 57 ≤ n0) {S : St} {L M : List St} {K : St} (hk : obk w b S L M K) {c : Nat} {X : Sh} (hu : shAt w (fun i => n0 ≤ i) (fun i => ¬ inO b i) c X) (hR : Rel S X) (hlw : n0 ≤ w.length) {k n ws aw s : Nat} {x y px py grid what : Int} {Φ : Option Value → pW → Prop} {p q inn : Int} (h0 : ¬ 0 < X.2.2.1) (KKn : ∀ w' : pW, obk w' b S L M K → agr (fun i => inO b i ∨ n0 ≤ i) w w' → gro 2000 (2 * pwsz (nP 0) + 12000) w w' → qE 158 (1559, [(9, .int (iI 0)), (8, .ref c), (5, .int (iI (k : Int))), (4, .int (iI (n : Int))), (3, .ref ws), (2, .ref aw), (1, .ref b), (0, .ref s)], [], w') Φ) : qE 158 (1360, [(16, .int (iI inn)), (15, .int (iI what)), (14, .int (iI q)), (13, .int (iI p)), (12, .int (iI py)), (11, .int (iI px)), (10, .int (iI grid)), (9, .int (iI 1)), (8, .ref c), (7, .int (iI y)), (6, .int (iI x)), (5, .int (iI (k : Int))), (4, .int (iI (n : Int))), (3, .ref ws), (2, .ref aw), (1, .ref b), (0, .ref s)], [], w) Φ := by
  refine l_fill0 hbn hk hu hR hlw h0 (fun w1 ho hc => ?_)
  obtain ⟨pa, fa, ha, pf, gf, hf, ff, hP⟩ := sh_chg hbn hu hc
  have hX8 := hP.2.2.2.2.2.2.2.2.2.1
  refine l_f1402 hP ?_
  refine pe_go (pc := 1414) rfl (s_newR (n := X.2.2.1 - 1) (by unfold zmax; split <;> omega) (by omega)) ?_
  refine l_h1417 ?_
  refine l_fcopy (m := w1.length) rfl hP (fun gg hg => ?_) (X.2.2.1 - 1) 0 (fun _ => none) (by omega) (fun j hj => absurd hj (Nat.not_lt_zero j))
  refine l_f1449_0 (dn := 0) ?_
  have hP2 := sh_app hP [.inl (3, X.2.2.1 - 1, rfs gg)]
  have hm2 : (w1 ++ [(.inl (3, X.2.2.1 - 1, rfs gg) : pCell)])[w1.length]? = some (.inl (3, X.2.2.1 - 1, rfs gg)) := get_end rfl
  have hl2 : (w1 ++ [(.inl (3, X.2.2.1 - 1, rfs gg) : pCell)]).length = w1.length + 1 := by rw [List.length_append]; rfl
  have hz2 : pwsz (w1 ++ [(.inl (3, X.2.2.1 - 1, rfs gg) : pCell)]) = pwsz w1 + (X.2.2.1 - 1) := by
    rw [pwsz_app]
    show pwsz w1 + ((X.2.2.1 - 1) + 0) = _
    rw [Nat.add_zero]
  have hA : agr (fun i => n0 ≤ i) w1 (w1 ++ [(.inl (3, X.2.2.1 - 1, rfs gg) : pCell)]) := agr_app
  generalize w1 ++ [(.inl (3, X.2.2.1 - 1, rfs gg) : pCell)] = w2 at hP2 hm2 hl2 hz2 hA ⊢
  have hlc := hc.2.1
  have hlz := hc.2.2
  have hnew : ∀ j : Nat, w1.length ≤ j → ¬ inO b j := fun j hj z => by have := z.2; omega
  have hpa := get_lt hP.2.2.1
  have hfa := get_lt hP.2.2.2.2.2.1
  have hP3 := sh_holes hP2 hm2 (hnew _ (Nat.le_refl _)) (by omega) (by omega) (by omega) (fun j hj => by
    obtain ⟨r, x, y, r1, r2, r3, r4⟩ := hP2.2.2.2.2.2.2.2.2.2.2 j (by omega)
    exact ⟨r, x, y, (hg j hj).trans r1, r2, r3, r4⟩)
  refine pe_go (pc := 1453) rfl (s_putf hP2.2.1 (Nat.le_of_ble_eq_true rfl) rfl rfl) ?_
  refine pe_go (pc := 1456) rfl s_goto ?_
  have hA3 : agr (fun i => n0 ≤ i) w2 (w2.set c (.inr (9, [.ref pa, .ref fa, .ref w1.length, .int (iI X.2.2.2)]))) := agr_set hP.1.1
  have hG3 := gro_set (c' := .inr (9, [.ref pa, .ref fa, .ref w1.length, .int (iI X.2.2.2)])) hP2.2.1 rfl
  exact KKn _ (obk_own hbn (obk_own hbn ho hA) hA3) (P_trans (P_chg hc) (P_own (P_trans hA hA3))) (gro_mono (n := 1) (m := 7) (gro_trans (n := 1) (m := 7) ⟨by omega, by omega⟩ hG3) (by decide) (by omega))
