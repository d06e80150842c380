/-! THE LAW: one turn: a number told, a step taken back. Rows laid by program (wip/p63/wk.py, hw.py, lawcase.py, mk98zs.py). -/
/-- a sheet stands when another sheet's own cell is written -/
theorem sh_agro {P : Nat → Prop} {w w' : pW} {O Q : Nat → Prop} {x aw : Nat} {X : Sh} (h : shAt w O Q x X) {ci : Nat} {fs : List Value} (ho : w[aw]? = some (.inr (ci, fs))) (hne : x ≠ aw) (k : agr P w w') (hP : ∀ i : Nat, P i → (¬ O i ∧ ¬ Q i) ∨ i = aw) : shAt w' O Q x X := by
  obtain ⟨pa, fa, ha, pf, gf, hf, ff, hb, h0, h1, h2, h3, h4, h5, h6, h7, h8, h9⟩ := h
  have keep : ∀ (i : Nat) (c : pCell), i ≠ aw → O i ∨ Q i → w[i]? = some c → w'[i]? = some c := fun i c hi h1 h2 => (k.2 i (get_lt h2) (fun z => by
    rcases hP i z with y | y
    · exact h1.elim y.1 y.2
    · exact hi y)).trans h2
  have arr : ∀ {i kd n : Nat} {f : (Nat → Int32) ⊕ (Nat → Int64) ⊕ (Nat → UInt32) ⊕ (Nat → UInt64) ⊕ (Nat → Option Nat)}, w[i]? = some (.inl (kd, n, f)) → i ≠ aw := fun hi e => by
    rw [e, ho] at hi
    cases hi
  refine ⟨pa, fa, ha, pf, gf, hf, ff, hb, keep _ _ hne (Or.inl hb.1) h0, keep _ _ (arr h1) (Or.inl hb.2.1) h1, h2, fun q x y z hq hz => ?_, keep _ _ (arr h4) (Or.inl hb.2.2.1) h4, fun q hq => ?_, h6, keep _ _ (arr h7) (Or.inr hb.2.2.2.1) h7, h8, fun q hq => ?_⟩
  · obtain ⟨r, r1, r2, r4⟩ := h3 q x y z hq hz
    exact ⟨r, r1, r2, keep _ _ (arr r4) (Or.inr r2) r4⟩
  · obtain ⟨r1, r2, r4⟩ := h5 q hq
    exact ⟨r1, r2, keep _ _ (arr r4) (Or.inl r2) r4⟩
  · obtain ⟨r, x, y, r1, r2, r4, r5⟩ := h9 q hq
    exact ⟨r, x, y, r1, r2, keep _ _ (arr r4) (Or.inr r2) r4, r5⟩
theorem l_t1466 {w : pW} {b c k n ws aw s : Nat} {x y px py grid what p q inn : Int} {Φ : Option Value → pW → Prop} (hy0 : 0 ≤ y ∧ y < 2147483648) (KK : qE 158 (1474, [(16, .int (iI inn)), (15, .int (iI what)), (14, .int (iI q)), (13, .int (iI p)), (12, .int (iI py)), (11, .int (iI px)), (10, .int (iI grid)), (9, .int (iI 1)), (8, .ref c), (7, .int (iI y)), (6, .int (iI x)), (5, .int (iI (k : Int))), (4, .int (iI (n : Int))), (3, .ref ws), (2, .ref aw), (1, .ref b), (0, .ref s)], [.int (iI (y % 30047)), .ref c], w) Φ) : qE 158 (1466, [(16, .int (iI inn)), (15, .int (iI what)), (14, .int (iI q)), (13, .int (iI p)), (12, .int (iI py)), (11, .int (iI px)), (10, .int (iI grid)), (9, .int (iI 1)), (8, .ref c), (7, .int (iI y)), (6, .int (iI x)), (5, .int (iI (k : Int))), (4, .int (iI (n : Int))), (3, .ref ws), (2, .ref aw), (1, .ref b), (0, .ref s)], [], w) Φ := by
  refine pe_go (pc := 1466) rfl (s_aload rfl) ?_
  refine pe_go (pc := 1468) rfl (s_iload rfl) ?_
  refine pe_go (pc := 1470) rfl (s_sipush (z := 30047) rfl) ?_
  refine pe_go (pc := 1473) rfl (s_irem ⟨by omega, by omega⟩ ⟨by decide, by decide⟩ (by decide) (by omega) (Int.tmod_eq_emod_of_nonneg (by omega))) ?_
  refine pe_few (lv := [(16, .int (iI inn)), (15, .int (iI what)), (14, .int (iI q)), (13, .int (iI p)), (12, .int (iI py)), (11, .int (iI px)), (10, .int (iI grid)), (9, .int (iI 1)), (8, .ref c), (7, .int (iI y)), (6, .int (iI x)), (5, .int (iI (k : Int))), (4, .int (iI (n : Int))), (3, .ref ws), (2, .ref aw), (1, .ref b), (0, .ref s)]) rfl rfl (by intro q hq; simp only [List.mem_cons, List.not_mem_nil, or_false] at hq; rcases hq with rfl | rfl | rfl | rfl | rfl | rfl | rfl | rfl | rfl | rfl | rfl | rfl | rfl | rfl | rfl | rfl | rfl <;> rfl) ?_
  exact KK
theorem l_t1477 {w : pW} {b c k n ws aw s : Nat} {x y px py grid what p q inn : Int} {Φ : Option Value → pW → Prop} {pa fa ha : Nat} {g9 : Int} (hco : w[c]? = some (.inr (9, [.ref pa, .ref fa, .ref ha, .int (iI g9)]))) (KK : qE 158 (1483, [(16, .int (iI inn)), (15, .int (iI what)), (14, .int (iI q)), (13, .int (iI p)), (12, .int (iI py)), (11, .int (iI px)), (10, .int (iI grid)), (9, .int (iI 1)), (8, .ref c), (7, .int (iI y)), (6, .int (iI x)), (5, .int (iI (k : Int))), (4, .int (iI (n : Int))), (3, .ref ws), (2, .ref aw), (1, .ref b), (0, .ref s)], [.int (iI g9), .ref aw], w) Φ) : qE 158 (1477, [(16, .int (iI inn)), (15, .int (iI what)), (14, .int (iI q)), (13, .int (iI p)), (12, .int (iI py)), (11, .int (iI px)), (10, .int (iI grid)), (9, .int (iI 1)), (8, .ref c), (7, .int (iI y)), (6, .int (iI x)), (5, .int (iI (k : Int))), (4, .int (iI (n : Int))), (3, .ref ws), (2, .ref aw), (1, .ref b), (0, .ref s)], [], w) Φ := by
  refine pe_go (pc := 1477) rfl (s_aload_n rfl) ?_
  refine pe_go (pc := 1478) rfl (s_aload rfl) ?_
  refine pe_go (pc := 1480) rfl (s_getf (v := .int (iI g9)) hco rfl) ?_
  refine pe_few (lv := [(16, .int (iI inn)), (15, .int (iI what)), (14, .int (iI q)), (13, .int (iI p)), (12, .int (iI py)), (11, .int (iI px)), (10, .int (iI grid)), (9, .int (iI 1)), (8, .ref c), (7, .int (iI y)), (6, .int (iI x)), (5, .int (iI (k : Int))), (4, .int (iI (n : Int))), (3, .ref ws), (2, .ref aw), (1, .ref b), (0, .ref s)]) rfl rfl (by intro q hq; simp only [List.mem_cons, List.not_mem_nil, or_false] at hq; rcases hq with rfl | rfl | rfl | rfl | rfl | rfl | rfl | rfl | rfl | rfl | rfl | rfl | rfl | rfl | rfl | rfl | rfl <;> rfl) ?_
  exact KK
theorem l_t1486 {w : pW} {b c k n ws aw s : Nat} {x y px py grid what p q inn : Int} {Φ : Option Value → pW → Prop} {S : St} {L M : List St} {K : St} (hk : obk w b S L M K) {pa fa ha : Nat} {g9 : Int} (hg9 : 0 ≤ g9 ∧ g9 < 30047) (hco : w[c]? = some (.inr (9, [.ref pa, .ref fa, .ref ha, .int (iI g9)]))) (KK : ∀ w' : pW, obk w' b (S.u_g g9) L M K → chg b w w' → qE 158 (1559, [(9, .int (iI 0)), (8, .ref c), (5, .int (iI (k : Int))), (4, .int (iI (n : Int))), (3, .ref ws), (2, .ref aw), (1, .ref b), (0, .ref s)], [], w') Φ) : qE 158 (1486, [(16, .int (iI inn)), (15, .int (iI what)), (14, .int (iI q)), (13, .int (iI p)), (12, .int (iI py)), (11, .int (iI px)), (10, .int (iI grid)), (9, .int (iI 1)), (8, .ref c), (7, .int (iI y)), (6, .int (iI x)), (5, .int (iI (k : Int))), (4, .int (iI (n : Int))), (3, .ref ws), (2, .ref aw), (1, .ref b), (0, .ref s)], [], w) Φ := by
  obtain ⟨fb, hbo⟩ := obk_obj hk
  refine pe_go (pc := 1486) rfl (s_iconst (z := 0) rfl) ?_
  refine pe_go (pc := 1487) rfl (s_istore (lv' := [(9, .int (iI 0)), (16, .int (iI inn)), (15, .int (iI what)), (14, .int (iI q)), (13, .int (iI p)), (12, .int (iI py)), (11, .int (iI px)), (10, .int (iI grid)), (8, .ref c), (7, .int (iI y)), (6, .int (iI x)), (5, .int (iI (k : Int))), (4, .int (iI (n : Int))), (3, .ref ws), (2, .ref aw), (1, .ref b), (0, .ref s)]) rfl) ?_
  refine pe_go (pc := 1489) rfl (s_aload_n rfl) ?_
  refine pe_go (pc := 1490) rfl (s_aload rfl) ?_
  refine pe_go (pc := 1492) rfl (s_getf (v := .int (iI g9)) hco rfl) ?_
  refine pe_callE rfl (s_invV rfl hbo rfl rfl) (k_tellY hk hg9.1 hg9.2) ?_
  rintro _ w1 ⟨rfl, ho1, hc1⟩
  obtain ⟨fb1, hbo1⟩ := obk_obj ho1
  refine pe_go rfl (s_ifeq_true rfl) ?_
  refine pe_go (pc := 1501) rfl (s_aload_n rfl) ?_
  refine pe_go (pc := 1502) rfl (s_sipush (z := 30047) rfl) ?_
  refine pe_callE rfl (s_invV rfl hbo1 rfl rfl) (k_tellN ho1 (x := 30047) ⟨by decide, by decide⟩ (by omega)) ?_
  rintro _ w2 ⟨rfl, ho2, hc2⟩
  obtain ⟨fb2, hbo2⟩ := obk_obj ho2
  refine pe_go rfl (s_ifne_false rfl) ?_
  refine pe_go (pc := 1511) rfl (s_aload_n rfl) ?_
  refine pe_go (pc := 1512) rfl (s_iconst (z := -1) rfl) ?_
  refine pe_callE rfl (s_invV rfl hbo2 rfl rfl) (k_tellN ho2 (x := -1) ⟨by decide, by decide⟩ (by omega)) ?_
  rintro _ w3 ⟨rfl, ho3, hc3⟩
  obtain ⟨fb3, hbo3⟩ := obk_obj ho3
  refine pe_go rfl (s_ifeq_false rfl) ?_
  refine pe_few (lv := [(9, .int (iI 0)), (8, .ref c), (5, .int (iI (k : Int))), (4, .int (iI (n : Int))), (3, .ref ws), (2, .ref aw), (1, .ref b), (0, .ref s)]) rfl rfl (by intro q hq; simp only [List.mem_cons, List.not_mem_nil, or_false] at hq; rcases hq with rfl | rfl | rfl | rfl | rfl | rfl | rfl | rfl <;> rfl) ?_
  exact KK _ ho3 ⟨P_trans hc1.1 (P_trans hc2.1 hc3.1), hc3.2.1.trans (hc2.2.1.trans hc1.2.1), hc3.2.2.trans (hc2.2.2.trans hc1.2.2)⟩
theorem l_case12 {w : pW} {b n0 : Nat} (hbn : b + 57 ≤ n0) {S : St} {L M : List St} {K : St} (hk : obk w b S L M K) {c : Nat} {X : Sh} (hu : shAt w (fun i => n0 ≤ i) (fun i => ¬ inO b i) c X) (hR : Rel S X) (hlw : n0 ≤ w.length) {k n ws aw s : Nat} {x y px py grid what : Int} {Φ : Option Value → pW → Prop} {p q inn : Int} (hy0 : 0 ≤ y ∧ y < 2147483648) {Xw : Sh} (hw : shAt w (fun i => ¬ inO b i ∧ i < n0) (fun i => ¬ inO b i ∧ i < n0) aw Xw) (hwn : aw < n0) (hwb : ¬ inO b aw) (KKt : ∀ (w' : pW) (g9 : Int), (0 ≤ g9 ∧ g9 < 30047) → obk w' b (S.u_g g9) L M K → shAt w' (fun i => ¬ inO b i ∧ i < n0) (fun i => ¬ inO b i ∧ i < n0) aw (Xw.uG g9) → agr (fun i => (inO b i ∨ n0 ≤ i) ∨ i = aw) w w' → gro 2000 (2 * pwsz (nP 0) + 12000) w w' → qE 158 (1559, [(9, .int (iI 0)), (8, .ref c), (5, .int (iI (k : Int))), (4, .int (iI (n : Int))), (3, .ref ws), (2, .ref aw), (1, .ref b), (0, .ref s)], [], w') Φ) : qE 158 (1466, [(16, .int (iI inn)), (15, .int (iI what)), (14, .int (iI q)), (13, .int (iI p)), (12, .int (iI py)), (11, .int (iI px)), (10, .int (iI grid)), (9, .int (iI 1)), (8, .ref c), (7, .int (iI y)), (6, .int (iI x)), (5, .int (iI (k : Int))), (4, .int (iI (n : Int))), (3, .ref ws), (2, .ref aw), (1, .ref b), (0, .ref s)], [], w) Φ := by
  obtain ⟨g9, hg⟩ : ∃ g9 : Int, y % 30047 = g9 := ⟨_, rfl⟩
  have hg9 : 0 ≤ g9 ∧ g9 < 30047 := by omega
  obtain ⟨pa, fa, ha, pf, gf, hf, ff, hP⟩ := id hu
  have hcn : n0 ≤ c := hP.1.1
  refine l_t1466 hy0 ?_
  rw [hg]
  refine pe_go (pc := 1474) rfl (s_putf (w' := w.set c (.inr (9, [.ref pa, .ref fa, .ref ha, .int (iI g9)]))) hP.2.1 (Nat.le_of_ble_eq_true rfl) rfl rfl) ?_
  have hA1 : agr (fun i => n0 ≤ i) w (w.set c (.inr (9, [.ref pa, .ref fa, .ref ha, .int (iI g9)]))) := agr_set hcn
  have hG1 := gro_set (c' := .inr (9, [.ref pa, .ref fa, .ref ha, .int (iI g9)])) hP.2.1 rfl
  have hco1 : (w.set c (.inr (9, [.ref pa, .ref fa, .ref ha, .int (iI g9)])))[c]? = some (.inr (9, [.ref pa, .ref fa, .ref ha, .int (iI g9)])) := set_at hP.2.1
  have hw1 := sh_agr hw hA1 (fun i z => ⟨fun z2 => by have := z2.2; have z : n0 ≤ i := z; omega, fun z2 => by have := z2.2; have z : n0 ≤ i := z; omega⟩)
  have ho1 := obk_own hbn hk hA1
  generalize w.set c (.inr (9, [.ref pa, .ref fa, .ref ha, .int (iI g9)])) = w1 at hA1 hG1 hco1 hw1 ho1 ⊢
  refine l_t1477 hco1 ?_
  obtain ⟨pw, fw, hw9, pfw, gfw, hfw, ffw, hPw⟩ := hw1
  refine pe_go (pc := 1483) rfl (s_putf (w' := w1.set aw (.inr (9, [.ref pw, .ref fw, .ref hw9, .int (iI g9)]))) hPw.2.1 (Nat.le_of_ble_eq_true rfl) rfl rfl) ?_
  have hA2 : agr (fun i => i = aw) w1 (w1.set aw (.inr (9, [.ref pw, .ref fw, .ref hw9, .int (iI g9)]))) := agr_set rfl
  have hG2 := gro_set (c' := .inr (9, [.ref pw, .ref fw, .ref hw9, .int (iI g9)])) hPw.2.1 rfl
  have hPw2 := sh_g hPw g9
  have hco2 : (w1.set aw (.inr (9, [.ref pw, .ref fw, .ref hw9, .int (iI g9)])))[c]? = some (.inr (9, [.ref pa, .ref fa, .ref ha, .int (iI g9)])) := set_keep hco1 (by omega)
  have ho2 : obk (w1.set aw (.inr (9, [.ref pw, .ref fw, .ref hw9, .int (iI g9)]))) b S L M K := obk_agr ho1 hA2 (fun i z z2 => hwb (by have z : i = aw := z; rw [← z]; exact z2))
  generalize w1.set aw (.inr (9, [.ref pw, .ref fw, .ref hw9, .int (iI g9)])) = w2 at hA2 hG2 hPw2 hco2 ho2 ⊢
  refine l_t1486 ho2 hg9 hco2 (fun w3 ho3 hc3 => ?_)
  refine KKt w3 g9 hg9 ho3 (sh_agr ⟨_, _, _, _, _, _, _, hPw2⟩ hc3.1 (fun i z => ⟨fun z2 => z2.1 z, fun z2 => z2.1 z⟩)) ?_ ?_
  · exact agr_trans (agr_mono hA1 (Q := fun i => (inO b i ∨ n0 ≤ i) ∨ i = aw) (fun _ z => Or.inl (Or.inr z))) (agr_trans (agr_mono hA2 (Q := fun i => (inO b i ∨ n0 ≤ i) ∨ i = aw) (fun _ z => Or.inr z)) (agr_mono hc3.1 (Q := fun i => (inO b i ∨ n0 ≤ i) ∨ i = aw) (fun _ z => Or.inl (Or.inl z))) (fun _ z => z)) (fun _ z => z)
  · exact gro_mono (gro_trans hG1 (gro_trans hG2 (g_chg hc3))) (by decide) (by omega)
theorem l_case13n {w : pW} {b : Nat} {S : St} {M : List St} {K : St} {c k n ws aw s : Nat} {x y px py grid what p q inn : Int} {Φ : Option Value → pW → Prop} (hk : obk w b S [] M K) (hn : n = 0) (KK : ∀ w' : pW, obk w' b S [] M K → chg b w w' → qE 158 (1559, [(9, .int (iI 0)), (8, .ref c), (5, .int (iI (k : Int))), (4, .int (iI ((0 : Nat) : Int))), (3, .ref ws), (2, .ref aw), (1, .ref b), (0, .ref s)], [], w') Φ) : qE 158 (1521, [(16, .int (iI inn)), (15, .int (iI what)), (14, .int (iI q)), (13, .int (iI p)), (12, .int (iI py)), (11, .int (iI px)), (10, .int (iI grid)), (9, .int (iI 1)), (8, .ref c), (7, .int (iI y)), (6, .int (iI x)), (5, .int (iI (k : Int))), (4, .int (iI (n : Int))), (3, .ref ws), (2, .ref aw), (1, .ref b), (0, .ref s)], [], w) Φ := by
  obtain ⟨fb, hbo⟩ := obk_obj hk
  subst hn
  refine pe_go (pc := 1521) rfl (s_iconst (z := 0) rfl) ?_
  refine pe_go (pc := 1522) rfl (s_istore (lv' := [(9, .int (iI 0)), (16, .int (iI inn)), (15, .int (iI what)), (14, .int (iI q)), (13, .int (iI p)), (12, .int (iI py)), (11, .int (iI px)), (10, .int (iI grid)), (8, .ref c), (7, .int (iI y)), (6, .int (iI x)), (5, .int (iI (k : Int))), (4, .int (iI ((0 : Nat) : Int))), (3, .ref ws), (2, .ref aw), (1, .ref b), (0, .ref s)]) rfl) ?_
  refine pe_go (pc := 1524) rfl (s_aload_n rfl) ?_
  refine pe_callE rfl (s_invV rfl hbo rfl rfl) (k_undoN hk) ?_
  rintro _ w1 ⟨rfl, ho1, hc1⟩
  refine pe_go (pc := 1528) rfl (s_iload rfl) ?_
  refine pe_go rfl (s_if_ne_f ⟨by omega, by omega⟩ (by decide)) ?_
  refine pe_go (pc := 1533) rfl (s_iconst (z := -1) rfl) ?_
  refine pe_go (pc := 1534) rfl s_goto ?_
  refine pe_go rfl (s_icmp_eq_t ⟨by decide, by decide⟩ ⟨by decide, by decide⟩ (by decide)) ?_
  refine pe_go (pc := 1546) rfl (s_iload rfl) ?_
  refine pe_go rfl (s_if_le_t ⟨by omega, by omega⟩ (by decide)) ?_
  refine pe_few (lv := [(9, .int (iI 0)), (8, .ref c), (5, .int (iI (k : Int))), (4, .int (iI ((0 : Nat) : Int))), (3, .ref ws), (2, .ref aw), (1, .ref b), (0, .ref s)]) rfl rfl (by intro q hq; simp only [List.mem_cons, List.not_mem_nil, or_false] at hq; rcases hq with rfl | rfl | rfl | rfl | rfl | rfl | rfl | rfl <;> rfl) ?_
  exact KK _ ho1 hc1
theorem l_case13y {w : pW} {b : Nat} {S : St} {M : List St} {K : St} {c k n ws aw s : Nat} {x y px py grid what p q inn : Int} {Φ : Option Value → pW → Prop} {L : List St} {J : St} (hk : obk w b S (L ++ [J]) M K) {m : Nat} (hm : m = L.length) (hn : n = m + 1) (h20 : m < 40) {wf : Nat → Option Nat} {a2 : Nat} (hws : w[ws]? = some (.inl (5, 40, rfs wf))) (hwb : ¬ inO b ws) (hwf : wf m = some a2) (KK : ∀ (w' : pW) (R : St), J.alike R → obk w' b R L M K → chg b w w' → qE 158 (1559, [(9, .int (iI 0)), (8, .ref c), (5, .int (iI (k : Int))), (4, .int (iI (m : Int))), (3, .ref ws), (2, .ref a2), (1, .ref b), (0, .ref s)], [], w') Φ) : qE 158 (1521, [(16, .int (iI inn)), (15, .int (iI what)), (14, .int (iI q)), (13, .int (iI p)), (12, .int (iI py)), (11, .int (iI px)), (10, .int (iI grid)), (9, .int (iI 1)), (8, .ref c), (7, .int (iI y)), (6, .int (iI x)), (5, .int (iI (k : Int))), (4, .int (iI (n : Int))), (3, .ref ws), (2, .ref aw), (1, .ref b), (0, .ref s)], [], w) Φ := by
  obtain ⟨fb, hbo⟩ := obk_obj hk
  subst hn
  refine pe_go (pc := 1521) rfl (s_iconst (z := 0) rfl) ?_
  refine pe_go (pc := 1522) rfl (s_istore (lv' := [(9, .int (iI 0)), (16, .int (iI inn)), (15, .int (iI what)), (14, .int (iI q)), (13, .int (iI p)), (12, .int (iI py)), (11, .int (iI px)), (10, .int (iI grid)), (8, .ref c), (7, .int (iI y)), (6, .int (iI x)), (5, .int (iI (k : Int))), (4, .int (iI ((m + 1 : Nat) : Int))), (3, .ref ws), (2, .ref aw), (1, .ref b), (0, .ref s)]) rfl) ?_
  refine pe_go (pc := 1524) rfl (s_aload_n rfl) ?_
  refine pe_callE rfl (s_invV rfl hbo rfl rfl) (k_undoY hk) ?_
  rintro _ w1 ⟨rfl, R1, hr1, ho1, hc1⟩
  have hws2 := cell_agr hc1.1 hws hwb
  rw [← hm]
  refine pe_go (pc := 1528) rfl (s_iload rfl) ?_
  refine pe_go rfl (s_if_ne_t ⟨by omega, by omega⟩ (by omega)) ?_
  refine pe_go (pc := 1537) rfl (s_iload rfl) ?_
  refine pe_go (pc := 1539) rfl (s_iconst (z := 1) rfl) ?_
  refine pe_go (pc := 1540) rfl s_isub ?_
  refine pe_go rfl (s_icmp_eq_t ⟨by omega, by omega⟩ ⟨by omega, by omega⟩ (by omega)) ?_
  refine pe_go (pc := 1546) rfl (s_iload rfl) ?_
  refine pe_go rfl (s_if_le_f ⟨by omega, by omega⟩ (by omega)) ?_
  refine pe_go (pc := 1551) rfl (s_iinc (x := ((m + 1 : Nat) : Int)) (y := ((m + 1 : Nat) : Int) + (-1)) rfl (by omega) (lv' := [(4, .int (iI (((m + 1 : Nat) : Int) + (-1)))), (9, .int (iI 0)), (16, .int (iI inn)), (15, .int (iI what)), (14, .int (iI q)), (13, .int (iI p)), (12, .int (iI py)), (11, .int (iI px)), (10, .int (iI grid)), (8, .ref c), (7, .int (iI y)), (6, .int (iI x)), (5, .int (iI (k : Int))), (3, .ref ws), (2, .ref aw), (1, .ref b), (0, .ref s)]) rfl) ?_
  rw [show ((m + 1 : Nat) : Int) + -1 = (m : Int) by omega]
  refine pe_go (pc := 1554) rfl (s_aload_n rfl) ?_
  refine pe_go (pc := 1555) rfl (s_iload rfl) ?_
  refine pe_go (pc := 1557) rfl (s_aald hws2 (k := m) (by omega) (by omega) hwf) ?_
  refine pe_go (pc := 1558) rfl (s_astore_n (lv' := [(2, .ref a2), (4, .int (iI (m : Int))), (9, .int (iI 0)), (16, .int (iI inn)), (15, .int (iI what)), (14, .int (iI q)), (13, .int (iI p)), (12, .int (iI py)), (11, .int (iI px)), (10, .int (iI grid)), (8, .ref c), (7, .int (iI y)), (6, .int (iI x)), (5, .int (iI (k : Int))), (3, .ref ws), (1, .ref b), (0, .ref s)]) rfl) ?_
  refine pe_few (lv := [(9, .int (iI 0)), (8, .ref c), (5, .int (iI (k : Int))), (4, .int (iI (m : Int))), (3, .ref ws), (2, .ref a2), (1, .ref b), (0, .ref s)]) rfl rfl (by intro q hq; simp only [List.mem_cons, List.not_mem_nil, or_false] at hq; rcases hq with rfl | rfl | rfl | rfl | rfl | rfl | rfl | rfl <;> rfl) ?_
  exact KK _ _ hr1 ho1 hc1
