/-! THE LAW: one turn: holes, whole. Rows laid by program (wip/p63/wk.py, hw.py, lawcase.py, mk98zu.py). -/
/-- a sheet's holes are put anew -/
theorem sh_holes {w : pW} {O Q : Nat → Prop} {c : Nat} {X : Sh} {pa fa ha : Nat} {pf gf hf : Nat → Option Nat} {ff : Nat → Nat} (hP : shP w O Q c X pa fa ha pf gf hf ff) {m n9 : Nat} {gg : Nat → Option Nat} (hm : w[m]? = some (.inl (3, n9, rfs gg))) (hQ : Q m) (h8 : n9 ≤ 8) (hpa : m ≠ pa) (hfa : m ≠ fa) (hrow : ∀ k : Nat, k < n9 → ∃ (r : Nat) (x y : Int), gg k = some r ∧ Q r ∧ rowI w r 2 (row2 x y) ∧ inSq x y) : shP (w.set c (.inr (9, [.ref pa, .ref fa, .ref m, .int (iI X.2.2.2)]))) O Q c (X.1, X.2.1, n9, X.2.2.2) pa fa m pf gf gg ff := by
  obtain ⟨hb, h0, h1, h2, h3, h4, h5, h6, h7, h8', h9⟩ := hP
  have keep : ∀ {i kd n : Nat} {f : (Nat → Int32) ⊕ (Nat → Int64) ⊕ (Nat → UInt32) ⊕ (Nat → UInt64) ⊕ (Nat → Option Nat)}, w[i]? = some (.inl (kd, n, f)) → (w.set c (.inr (9, [.ref pa, .ref fa, .ref m, .int (iI X.2.2.2)])))[i]? = some (.inl (kd, n, f)) := fun hi => set_keep hi (fun e => by
    rw [e, h0] at hi
    cases hi)
  refine ⟨⟨hb.1, hb.2.1, hb.2.2.1, hQ, hb.2.2.2.2.1, hpa, hfa⟩, set_at h0, keep h1, h2, fun k x y z hk e => ?_, keep h4, fun k hk => ?_, h6, keep hm, h8, fun k hk => ?_⟩
  · obtain ⟨r, r1, r2, r4⟩ := h3 k x y z hk e
    exact ⟨r, r1, r2, keep r4⟩
  · obtain ⟨r1, r2, r4⟩ := h5 k hk
    exact ⟨r1, r2, keep r4⟩
  · obtain ⟨r, x, y, r1, r2, r4, r5⟩ := hrow k hk
    exact ⟨r, x, y, r1, r2, keep r4, r5⟩
theorem l_h1259 {w : pW} {O Q : Nat → Prop} {c : Nat} {X : Sh} {pa fa ha : Nat} {pf gf hf : Nat → Option Nat} {ff : Nat → Nat} (hP : shP w O Q c X pa fa ha pf gf hf ff) {b k n ws aw s : Nat} {x y px py grid what p q inn dn : Int} {Φ : Option Value → pW → Prop} (KK : qE 158 (1267, [(16, .int (iI inn)), (15, .int (iI what)), (14, .int (iI q)), (13, .int (iI p)), (12, .int (iI py)), (11, .int (iI px)), (10, .int (iI grid)), (9, .int (iI dn)), (8, .ref c), (7, .int (iI y)), (6, .int (iI x)), (5, .int (iI (k : Int))), (4, .int (iI (n : Int))), (3, .ref ws), (2, .ref aw), (1, .ref b), (0, .ref s)], [.int (iI (((X.2.2.1 : Nat) : Int) + 1))], w) Φ) : qE 158 (1259, [(16, .int (iI inn)), (15, .int (iI what)), (14, .int (iI q)), (13, .int (iI p)), (12, .int (iI py)), (11, .int (iI px)), (10, .int (iI grid)), (9, .int (iI dn)), (8, .ref c), (7, .int (iI y)), (6, .int (iI x)), (5, .int (iI (k : Int))), (4, .int (iI (n : Int))), (3, .ref ws), (2, .ref aw), (1, .ref b), (0, .ref s)], [], w) Φ := by
  refine pe_go (pc := 1259) rfl (s_aload rfl) ?_
  refine pe_go (pc := 1261) rfl (s_getf (v := .ref ha) hP.2.1 rfl) ?_
  refine pe_go (pc := 1264) rfl (s_alenR (kd := 0) ⟨hP.2.2.2.2.2.2.2.2.1, by decide⟩) ?_
  refine pe_go (pc := 1265) rfl (s_iconst (z := 1) rfl) ?_
  refine pe_go (pc := 1266) rfl s_iadd ?_
  refine pe_few (lv := [(16, .int (iI inn)), (15, .int (iI what)), (14, .int (iI q)), (13, .int (iI p)), (12, .int (iI py)), (11, .int (iI px)), (10, .int (iI grid)), (9, .int (iI dn)), (8, .ref c), (7, .int (iI y)), (6, .int (iI x)), (5, .int (iI (k : Int))), (4, .int (iI (n : Int))), (3, .ref ws), (2, .ref aw), (1, .ref b), (0, .ref s)]) rfl rfl (by intro q hq; simp only [List.mem_cons, List.not_mem_nil, or_false] at hq; rcases hq with rfl | rfl | rfl | rfl | rfl | rfl | rfl | rfl | rfl | rfl | rfl | rfl | rfl | rfl | rfl | rfl | rfl <;> rfl) ?_
  exact KK
theorem l_h1270 {w : pW} {c m : Nat} {b k n ws aw s : Nat} {x y px py grid what p q inn dn : Int} {Φ : Option Value → pW → Prop} (KK : qE 158 (1275, [(18, .int (iI ((0 : Nat) : Int))), (17, .ref m), (16, .int (iI inn)), (15, .int (iI what)), (14, .int (iI q)), (13, .int (iI p)), (12, .int (iI py)), (11, .int (iI px)), (10, .int (iI grid)), (9, .int (iI dn)), (8, .ref c), (7, .int (iI y)), (6, .int (iI x)), (5, .int (iI (k : Int))), (4, .int (iI (n : Int))), (3, .ref ws), (2, .ref aw), (1, .ref b), (0, .ref s)], [], w) Φ) : qE 158 (1270, [(16, .int (iI inn)), (15, .int (iI what)), (14, .int (iI q)), (13, .int (iI p)), (12, .int (iI py)), (11, .int (iI px)), (10, .int (iI grid)), (9, .int (iI dn)), (8, .ref c), (7, .int (iI y)), (6, .int (iI x)), (5, .int (iI (k : Int))), (4, .int (iI (n : Int))), (3, .ref ws), (2, .ref aw), (1, .ref b), (0, .ref s)], [.ref m], w) Φ := by
  refine pe_go (pc := 1270) rfl (s_astore (lv' := [(17, .ref m), (16, .int (iI inn)), (15, .int (iI what)), (14, .int (iI q)), (13, .int (iI p)), (12, .int (iI py)), (11, .int (iI px)), (10, .int (iI grid)), (9, .int (iI dn)), (8, .ref c), (7, .int (iI y)), (6, .int (iI x)), (5, .int (iI (k : Int))), (4, .int (iI (n : Int))), (3, .ref ws), (2, .ref aw), (1, .ref b), (0, .ref s)]) rfl) ?_
  refine pe_go (pc := 1272) rfl (s_iconst (z := 0) rfl) ?_
  refine pe_go (pc := 1273) rfl (s_istore (lv' := [(18, .int (iI 0)), (17, .ref m), (16, .int (iI inn)), (15, .int (iI what)), (14, .int (iI q)), (13, .int (iI p)), (12, .int (iI py)), (11, .int (iI px)), (10, .int (iI grid)), (9, .int (iI dn)), (8, .ref c), (7, .int (iI y)), (6, .int (iI x)), (5, .int (iI (k : Int))), (4, .int (iI (n : Int))), (3, .ref ws), (2, .ref aw), (1, .ref b), (0, .ref s)]) rfl) ?_
  refine pe_few (lv := [(18, .int (iI ((0 : Nat) : Int))), (17, .ref m), (16, .int (iI inn)), (15, .int (iI what)), (14, .int (iI q)), (13, .int (iI p)), (12, .int (iI py)), (11, .int (iI px)), (10, .int (iI grid)), (9, .int (iI dn)), (8, .ref c), (7, .int (iI y)), (6, .int (iI x)), (5, .int (iI (k : Int))), (4, .int (iI (n : Int))), (3, .ref ws), (2, .ref aw), (1, .ref b), (0, .ref s)]) rfl rfl (by intro q hq; simp only [List.mem_cons, List.not_mem_nil, or_false] at hq; rcases hq with rfl | rfl | rfl | rfl | rfl | rfl | rfl | rfl | rfl | rfl | rfl | rfl | rfl | rfl | rfl | rfl | rfl | rfl | rfl <;> rfl) ?_
  exact KK
theorem l_h1417 {w : pW} {c m : Nat} {b k n ws aw s : Nat} {x y px py grid what p q inn dn : Int} {Φ : Option Value → pW → Prop} (KK : qE 158 (1422, [(18, .int (iI ((0 : Nat) : Int))), (17, .ref m), (16, .int (iI inn)), (15, .int (iI what)), (14, .int (iI q)), (13, .int (iI p)), (12, .int (iI py)), (11, .int (iI px)), (10, .int (iI grid)), (9, .int (iI dn)), (8, .ref c), (7, .int (iI y)), (6, .int (iI x)), (5, .int (iI (k : Int))), (4, .int (iI (n : Int))), (3, .ref ws), (2, .ref aw), (1, .ref b), (0, .ref s)], [], w) Φ) : qE 158 (1417, [(16, .int (iI inn)), (15, .int (iI what)), (14, .int (iI q)), (13, .int (iI p)), (12, .int (iI py)), (11, .int (iI px)), (10, .int (iI grid)), (9, .int (iI dn)), (8, .ref c), (7, .int (iI y)), (6, .int (iI x)), (5, .int (iI (k : Int))), (4, .int (iI (n : Int))), (3, .ref ws), (2, .ref aw), (1, .ref b), (0, .ref s)], [.ref m], w) Φ := by
  refine pe_go (pc := 1417) rfl (s_astore (lv' := [(17, .ref m), (16, .int (iI inn)), (15, .int (iI what)), (14, .int (iI q)), (13, .int (iI p)), (12, .int (iI py)), (11, .int (iI px)), (10, .int (iI grid)), (9, .int (iI dn)), (8, .ref c), (7, .int (iI y)), (6, .int (iI x)), (5, .int (iI (k : Int))), (4, .int (iI (n : Int))), (3, .ref ws), (2, .ref aw), (1, .ref b), (0, .ref s)]) rfl) ?_
  refine pe_go (pc := 1419) rfl (s_iconst (z := 0) rfl) ?_
  refine pe_go (pc := 1420) rfl (s_istore (lv' := [(18, .int (iI 0)), (17, .ref m), (16, .int (iI inn)), (15, .int (iI what)), (14, .int (iI q)), (13, .int (iI p)), (12, .int (iI py)), (11, .int (iI px)), (10, .int (iI grid)), (9, .int (iI dn)), (8, .ref c), (7, .int (iI y)), (6, .int (iI x)), (5, .int (iI (k : Int))), (4, .int (iI (n : Int))), (3, .ref ws), (2, .ref aw), (1, .ref b), (0, .ref s)]) rfl) ?_
  refine pe_few (lv := [(18, .int (iI ((0 : Nat) : Int))), (17, .ref m), (16, .int (iI inn)), (15, .int (iI what)), (14, .int (iI q)), (13, .int (iI p)), (12, .int (iI py)), (11, .int (iI px)), (10, .int (iI grid)), (9, .int (iI dn)), (8, .ref c), (7, .int (iI y)), (6, .int (iI x)), (5, .int (iI (k : Int))), (4, .int (iI (n : Int))), (3, .ref ws), (2, .ref aw), (1, .ref b), (0, .ref s)]) rfl rfl (by intro q hq; simp only [List.mem_cons, List.not_mem_nil, or_false] at hq; rcases hq with rfl | rfl | rfl | rfl | rfl | rfl | rfl | rfl | rfl | rfl | rfl | rfl | rfl | rfl | rfl | rfl | rfl | rfl | rfl <;> rfl) ?_
  exact KK
theorem l_h1305 {w : pW} {m m2 : Nat} (hm2 : w.length = m2) {O Q : Nat → Prop} {c : Nat} {X : Sh} {pa fa ha : Nat} {pf gf hf : Nat → Option Nat} {ff : Nat → Nat} (hP : shP w O Q c X pa fa ha pf gf hf ff) {b k n ws aw s : Nat} {x y px py grid what p q inn dn : Int} {Φ : Option Value → pW → Prop} (KK : qE 158 (1326, [(17, .ref m), (16, .int (iI inn)), (15, .int (iI what)), (14, .int (iI q)), (13, .int (iI p)), (12, .int (iI py)), (11, .int (iI px)), (10, .int (iI grid)), (9, .int (iI dn)), (8, .ref c), (7, .int (iI y)), (6, .int (iI x)), (5, .int (iI (k : Int))), (4, .int (iI (n : Int))), (3, .ref ws), (2, .ref aw), (1, .ref b), (0, .ref s)], [.ref m2, .int (iI ((X.2.2.1 : Nat) : Int)), .ref m], w ++ [.inl (0, 2, .inl (fun j => iI (row2 px py j)))]) Φ) : qE 158 (1305, [(17, .ref m), (16, .int (iI inn)), (15, .int (iI what)), (14, .int (iI q)), (13, .int (iI p)), (12, .int (iI py)), (11, .int (iI px)), (10, .int (iI grid)), (9, .int (iI dn)), (8, .ref c), (7, .int (iI y)), (6, .int (iI x)), (5, .int (iI (k : Int))), (4, .int (iI (n : Int))), (3, .ref ws), (2, .ref aw), (1, .ref b), (0, .ref s)], [], w) Φ := by
  refine pe_go (pc := 1305) rfl (s_aload rfl) ?_
  refine pe_go (pc := 1307) rfl (s_aload rfl) ?_
  refine pe_go (pc := 1309) rfl (s_getf (v := .ref ha) hP.2.1 rfl) ?_
  refine pe_go (pc := 1312) rfl (s_alenR (kd := 0) ⟨hP.2.2.2.2.2.2.2.2.1, by decide⟩) ?_
  refine pe_go (pc := 1313) rfl (s_iconst (z := 2) rfl) ?_
  refine pe_go (pc := 1314) rfl (s_newM (n := 2) hm2 rfl (by decide)) ?_
  refine pe_go (pc := 1316) rfl (s_dup rfl) ?_
  refine pe_go (pc := 1317) rfl (s_iconst (z := 0) rfl) ?_
  refine pe_go (pc := 1318) rfl (s_iload rfl) ?_
  refine pe_go (pc := 1320) rfl (s_iast (n := 2) (f := fun _ => (0 : Int)) (w' := w ++ [.inl (0, 2, .inl (fun j => iI ((uZ (fun _ => (0 : Int)) 0 px) j)))]) (get_end hm2) (k := 0) (by omega) (by omega) (by decide) (set_end hm2)) ?_
  refine pe_go (pc := 1321) rfl (s_dup rfl) ?_
  refine pe_go (pc := 1322) rfl (s_iconst (z := 1) rfl) ?_
  refine pe_go (pc := 1323) rfl (s_iload rfl) ?_
  refine pe_go (pc := 1325) rfl (s_iast (n := 2) (f := uZ (fun _ => (0 : Int)) 0 px) (w' := w ++ [.inl (0, 2, .inl (fun j => iI ((uZ (uZ (fun _ => (0 : Int)) 0 px) 1 py) j)))]) (get_end hm2) (k := 1) (by omega) (by omega) (by decide) (set_end hm2)) ?_
  refine pe_few (lv := [(17, .ref m), (16, .int (iI inn)), (15, .int (iI what)), (14, .int (iI q)), (13, .int (iI p)), (12, .int (iI py)), (11, .int (iI px)), (10, .int (iI grid)), (9, .int (iI dn)), (8, .ref c), (7, .int (iI y)), (6, .int (iI x)), (5, .int (iI (k : Int))), (4, .int (iI (n : Int))), (3, .ref ws), (2, .ref aw), (1, .ref b), (0, .ref s)]) rfl rfl (by intro q hq; simp only [List.mem_cons, List.not_mem_nil, or_false] at hq; rcases hq with rfl | rfl | rfl | rfl | rfl | rfl | rfl | rfl | rfl | rfl | rfl | rfl | rfl | rfl | rfl | rfl | rfl | rfl <;> rfl) ?_
  exact KK
theorem l_h1327_1 {w : pW} {c m : Nat} {b k n ws aw s : Nat} {x y px py grid what p q inn dn : Int} {Φ : Option Value → pW → Prop} (KK : qE 158 (1336, [(9, .int (iI 1)), (8, .ref c), (5, .int (iI (k : Int))), (4, .int (iI (n : Int))), (3, .ref ws), (2, .ref aw), (1, .ref b), (0, .ref s)], [.ref m, .ref c], w) Φ) : qE 158 (1327, [(17, .ref m), (16, .int (iI inn)), (15, .int (iI what)), (14, .int (iI q)), (13, .int (iI p)), (12, .int (iI py)), (11, .int (iI px)), (10, .int (iI grid)), (9, .int (iI 1)), (8, .ref c), (7, .int (iI y)), (6, .int (iI x)), (5, .int (iI (k : Int))), (4, .int (iI (n : Int))), (3, .ref ws), (2, .ref aw), (1, .ref b), (0, .ref s)], [], w) Φ := by
  refine pe_go (pc := 1327) rfl (s_iload rfl) ?_
  refine pe_go rfl (s_if_eq_f ⟨by decide, by decide⟩ (by decide)) ?_
  refine pe_go (pc := 1332) rfl (s_aload rfl) ?_
  refine pe_go (pc := 1334) rfl (s_aload rfl) ?_
  refine pe_few (lv := [(9, .int (iI 1)), (8, .ref c), (5, .int (iI (k : Int))), (4, .int (iI (n : Int))), (3, .ref ws), (2, .ref aw), (1, .ref b), (0, .ref s)]) rfl rfl (by intro q hq; simp only [List.mem_cons, List.not_mem_nil, or_false] at hq; rcases hq with rfl | rfl | rfl | rfl | rfl | rfl | rfl | rfl <;> rfl) ?_
  exact KK
theorem l_h1327_0 {w : pW} {c m : Nat} {b k n ws aw s : Nat} {x y px py grid what p q inn dn : Int} {Φ : Option Value → pW → Prop} (KK : qE 158 (1559, [(9, .int (iI 0)), (8, .ref c), (5, .int (iI (k : Int))), (4, .int (iI (n : Int))), (3, .ref ws), (2, .ref aw), (1, .ref b), (0, .ref s)], [], w) Φ) : qE 158 (1327, [(17, .ref m), (16, .int (iI inn)), (15, .int (iI what)), (14, .int (iI q)), (13, .int (iI p)), (12, .int (iI py)), (11, .int (iI px)), (10, .int (iI grid)), (9, .int (iI 0)), (8, .ref c), (7, .int (iI y)), (6, .int (iI x)), (5, .int (iI (k : Int))), (4, .int (iI (n : Int))), (3, .ref ws), (2, .ref aw), (1, .ref b), (0, .ref s)], [], w) Φ := by
  refine pe_go (pc := 1327) rfl (s_iload rfl) ?_
  refine pe_go rfl (s_if_eq_t ⟨by decide, by decide⟩ (by decide)) ?_
  refine pe_go (pc := 1339) rfl s_goto ?_
  refine pe_few (lv := [(9, .int (iI 0)), (8, .ref c), (5, .int (iI (k : Int))), (4, .int (iI (n : Int))), (3, .ref ws), (2, .ref aw), (1, .ref b), (0, .ref s)]) rfl rfl (by intro q hq; simp only [List.mem_cons, List.not_mem_nil, or_false] at hq; rcases hq with rfl | rfl | rfl | rfl | rfl | rfl | rfl | rfl <;> rfl) ?_
  exact KK
theorem l_hmake {w : pW} {O Q : Nat → Prop} {c : Nat} {X : Sh} {pa fa ha : Nat} {pf gf hf : Nat → Option Nat} {ff : Nat → Nat} (hP : shP w O Q c X pa fa ha pf gf hf ff) {b k n ws aw s : Nat} {x y px py grid what p q inn dn : Int} {Φ : Option Value → pW → Prop} (KK : ∀ (w' : pW) (gg : Nat → Option Nat) (m : Nat), m = w.length → pfx w w' → w'.length = w.length + 2 → pwsz w' = pwsz w + (X.2.2.1 + 1) + 2 → w'[m]? = some (.inl (3, X.2.2.1 + 1, rfs gg)) → (∀ j : Nat, j < X.2.2.1 → gg j = hf j) → gg X.2.2.1 = some (m + 1) → rowI w' (m + 1) 2 (row2 px py) → qE 158 (1327, [(17, .ref m), (16, .int (iI inn)), (15, .int (iI what)), (14, .int (iI q)), (13, .int (iI p)), (12, .int (iI py)), (11, .int (iI px)), (10, .int (iI grid)), (9, .int (iI dn)), (8, .ref c), (7, .int (iI y)), (6, .int (iI x)), (5, .int (iI (k : Int))), (4, .int (iI (n : Int))), (3, .ref ws), (2, .ref aw), (1, .ref b), (0, .ref s)], [], w') Φ) : qE 158 (1259, [(16, .int (iI inn)), (15, .int (iI what)), (14, .int (iI q)), (13, .int (iI p)), (12, .int (iI py)), (11, .int (iI px)), (10, .int (iI grid)), (9, .int (iI dn)), (8, .ref c), (7, .int (iI y)), (6, .int (iI x)), (5, .int (iI (k : Int))), (4, .int (iI (n : Int))), (3, .ref ws), (2, .ref aw), (1, .ref b), (0, .ref s)], [], w) Φ := by
  have hX8 := hP.2.2.2.2.2.2.2.2.2.1
  refine l_h1259 hP ?_
  refine pe_go (pc := 1267) rfl (s_newR (n := X.2.2.1 + 1) (by omega) (by omega)) ?_
  refine l_h1270 ?_
  refine l_hcopy (m := w.length) rfl hP (fun gg hg => ?_) X.2.2.1 0 (fun _ => none) (by omega) (fun j hj => absurd hj (Nat.not_lt_zero j))
  have hP1 := sh_app hP [.inl (3, X.2.2.1 + 1, rfs gg)]
  have hm1 : (w ++ [(.inl (3, X.2.2.1 + 1, rfs gg) : pCell)])[w.length]? = some (.inl (3, X.2.2.1 + 1, rfs gg)) := get_end rfl
  have hl1 : (w ++ [(.inl (3, X.2.2.1 + 1, rfs gg) : pCell)]).length = w.length + 1 := by rw [List.length_append]; rfl
  have hz1 : pwsz (w ++ [(.inl (3, X.2.2.1 + 1, rfs gg) : pCell)]) = pwsz w + (X.2.2.1 + 1) := by
    rw [pwsz_app]
    show _ + (_ + 0) = _
    omega
  have hp1 : pfx w (w ++ [(.inl (3, X.2.2.1 + 1, rfs gg) : pCell)]) := ⟨_, rfl⟩
  generalize w ++ [(.inl (3, X.2.2.1 + 1, rfs gg) : pCell)] = w1 at hP1 hm1 hl1 hz1 hp1 ⊢
  refine l_h1305 hl1 hP1 ?_
  have hm2 : (w1 ++ [(.inl (0, 2, .inl (fun j => iI (row2 px py j))) : pCell)])[w.length]? = some (.inl (3, X.2.2.1 + 1, rfs gg)) := cell_app hm1
  have hr2 : (w1 ++ [(.inl (0, 2, .inl (fun j => iI (row2 px py j))) : pCell)])[w.length + 1]? = some (.inl (0, 2, .inl (fun j => iI (row2 px py j)))) := get_end hl1
  refine pe_go (pc := 1326) rfl (s_aast (kd := 3) (k := X.2.2.1) hm2 (holds_row hr2) rfl ⟨by omega, by omega⟩ rfl) ?_
  have hl2 : (w1 ++ [(.inl (0, 2, .inl (fun j => iI (row2 px py j))) : pCell)]).length = w1.length + 1 := by rw [List.length_append]; rfl
  have hz2 : pwsz (w1 ++ [(.inl (0, 2, .inl (fun j => iI (row2 px py j))) : pCell)]) = pwsz w1 + 2 := by
    rw [pwsz_app]
    rfl
  have hp2 : pfx w (w1 ++ [(.inl (0, 2, .inl (fun j => iI (row2 px py j))) : pCell)]) := pfx_trans hp1 ⟨_, rfl⟩
  generalize w1 ++ [(.inl (0, 2, .inl (fun j => iI (row2 px py j))) : pCell)] = w2 at hm2 hr2 hl2 hz2 hp2 ⊢
  refine KK (w2.set w.length (.inl (3, X.2.2.1 + 1, rfs (va_up gg X.2.2.1 (some (w.length + 1)))))) (va_up gg X.2.2.1 (some (w.length + 1))) w.length rfl (pfx_set hp2 (Nat.le_refl _) _) (by rw [List.length_set]; omega) ?_ (set_at hm2) (fun j hj => ?_) vaU_at (set_keep hr2 (by omega))
  · rw [pwsz_set hm2]
    · omega
    · rfl
  · rw [vaU_ne (by omega)]
    exact hg j hj
theorem l_case10_1 {w : pW} {b n0 : Nat} (hbn : b + 57 ≤ n0) {S : St} {L M : List St} {K : St} (hk : obk w b S L M K) {c : Nat} {X : Sh} (hu : shAt w (fun i => n0 ≤ i) (fun i => ¬ inO b i) c X) (hR : Rel S X) (hlw : n0 ≤ w.length) {k n ws aw s : Nat} {x y px py grid what : Int} {Φ : Option Value → pW → Prop} {p q : Int} (sx : sm px) (sy : sm py) (hin : inSq px py) (KKd : ∀ (w' : pW) (S' : St) (X' : Sh), obk w' b S' (pshL S L) M K → Rel S' X' → shAt w' (fun i => n0 ≤ i) (fun i => ¬ inO b i) c X' → agr (fun i => inO b i ∨ n0 ≤ i) w w' → gro 2000 (2 * pwsz (nP 0) + 12000) w w' → qE 158 (1559, [(9, .int (iI 1)), (8, .ref c), (5, .int (iI (k : Int))), (4, .int (iI (n : Int))), (3, .ref ws), (2, .ref aw), (1, .ref b), (0, .ref s)], [], w') Φ) (KKn : ∀ w' : pW, obk w' b S L M K → agr (fun i => inO b i ∨ n0 ≤ i) w w' → gro 2000 (2 * pwsz (nP 0) + 12000) w w' → qE 158 (1559, [(9, .int (iI 0)), (8, .ref c), (5, .int (iI (k : Int))), (4, .int (iI (n : Int))), (3, .ref ws), (2, .ref aw), (1, .ref b), (0, .ref s)], [], w') Φ) : qE 158 (1206, [(16, .int (iI 1)), (15, .int (iI what)), (14, .int (iI q)), (13, .int (iI p)), (12, .int (iI py)), (11, .int (iI px)), (10, .int (iI grid)), (9, .int (iI 1)), (8, .ref c), (7, .int (iI y)), (6, .int (iI x)), (5, .int (iI (k : Int))), (4, .int (iI (n : Int))), (3, .ref ws), (2, .ref aw), (1, .ref b), (0, .ref s)], [], w) Φ := by
  have hIn := hR.In (obk_ok hk)
  refine l_hole1 hbn hk hu hR hlw sx sy hin (fun w1 h8 ho hc => ?_) (fun w1 ho hc => ?_)
  rotate_left
  · obtain ⟨pa, fa, ha, pf, gf, hf, ff, hP⟩ := sh_chg hbn hu hc
    refine l_hmake hP (fun w2 gg m em hp2 hl2 hz2 hm2 hg1 hg2 hr2 => ?_)
    have hX8 := hP.2.2.2.2.2.2.2.2.2.1
    refine l_h1327_0 (dn := 0) ?_
    have hA : agr (fun i => n0 ≤ i) w1 w2 := pfx_gro hp2
    exact KKn w2 (obk_own hbn ho hA) (P_trans (P_chg hc) (P_own hA)) (gro_mono (n := 2) (m := 11) ⟨by have := hc.2.1; omega, by have := hc.2.2; omega⟩ (by decide) (by omega))
  obtain ⟨pa, fa, ha, pf, gf, hf, ff, hP⟩ := sh_chg hbn hu hc
  refine l_hmake hP (fun w2 gg m em hp2 hl2 hz2 hm2 hg1 hg2 hr2 => ?_)
  refine l_h1327_1 (dn := 1) ?_
  have hP2 := shP_pfx hp2 hP
  have hlc := hc.2.1
  have hlz := hc.2.2
  have hnew : ∀ j : Nat, w1.length ≤ j → ¬ inO b j := fun j hj z => by have := z.2; omega
  have hpa := get_lt hP.2.2.1
  have hfa := get_lt hP.2.2.2.2.2.1
  have hP3 := sh_holes hP2 hm2 (hnew m (by omega)) (by omega) (by omega) (by omega) (fun j hj => by
    by_cases e : j = X.2.2.1
    · subst e
      exact ⟨m + 1, px, py, hg2, hnew _ (by omega), hr2, hin⟩
    · obtain ⟨r, x, y, r1, r2, r3, r4⟩ := hP2.2.2.2.2.2.2.2.2.2.2 j (by omega)
      exact ⟨r, x, y, (hg1 j (by omega)).trans r1, r2, r3, r4⟩)
  refine pe_go (pc := 1336) rfl (s_putf hP2.2.1 (Nat.le_of_ble_eq_true rfl) rfl rfl) ?_
  refine pe_go (pc := 1339) rfl s_goto ?_
  have hA : agr (fun i => n0 ≤ i) w1 w2 := pfx_gro hp2
  have hA3 : agr (fun i => n0 ≤ i) w2 (w2.set c (.inr (9, [.ref pa, .ref fa, .ref m, .int (iI X.2.2.2)]))) := agr_set hP.1.1
  have hG3 := gro_set (c' := .inr (9, [.ref pa, .ref fa, .ref m, .int (iI X.2.2.2)])) hP2.2.1 rfl
  have hRn := Rel.holes hR (uZ S.hx S.hn.toNat px) (uZ S.hy S.hn.toNat py) (X.2.2.1 + 1)
  rw [show ((X.2.2.1 + 1 : Nat) : Int) = S.hn + 1 by have := hR.2.2.2.1; omega] at hRn
  refine KKd _ _ (X.1, X.2.1, X.2.2.1 + 1, X.2.2.2) (obk_own hbn (obk_own hbn ho hA) hA3) hRn ⟨_, _, _, _, _, _, _, hP3⟩ (P_trans (P_chg hc) (P_own (P_trans hA hA3))) (gro_mono (n := 2) (m := 11) (gro_trans (n := 2) (m := 11) ⟨by omega, by omega⟩ hG3) (by decide) (by omega))
theorem l_case10_0 {w : pW} {b n0 : Nat} (hbn : b + 57 ≤ n0) {S : St} {L M : List St} {K : St} (hk : obk w b S L M K) {c : Nat} {X : Sh} (hu : shAt w (fun i => n0 ≤ i) (fun i => ¬ inO b i) c X) (hR : Rel S X) (hlw : n0 ≤ w.length) {k n ws aw s : Nat} {x y px py grid what : Int} {Φ : Option Value → pW → Prop} {p q : Int} (sx : sm px) (sy : sm py) (hin : ¬ inSq px py)  (KKn : ∀ w' : pW, obk w' b S L M K → agr (fun i => inO b i ∨ n0 ≤ i) w w' → gro 2000 (2 * pwsz (nP 0) + 12000) w w' → qE 158 (1559, [(9, .int (iI 0)), (8, .ref c), (5, .int (iI (k : Int))), (4, .int (iI (n : Int))), (3, .ref ws), (2, .ref aw), (1, .ref b), (0, .ref s)], [], w') Φ) : qE 158 (1206, [(16, .int (iI 0)), (15, .int (iI what)), (14, .int (iI q)), (13, .int (iI p)), (12, .int (iI py)), (11, .int (iI px)), (10, .int (iI grid)), (9, .int (iI 1)), (8, .ref c), (7, .int (iI y)), (6, .int (iI x)), (5, .int (iI (k : Int))), (4, .int (iI (n : Int))), (3, .ref ws), (2, .ref aw), (1, .ref b), (0, .ref s)], [], w) Φ := by
  have hIn := hR.In (obk_ok hk)
  refine l_hole0 hbn hk hu hR hlw sx sy hin (fun w1 ho hc => ?_)
  skip
  obtain ⟨pa, fa, ha, pf, gf, hf, ff, hP⟩ := sh_chg hbn hu hc
  refine l_hmake hP (fun w2 gg m em hp2 hl2 hz2 hm2 hg1 hg2 hr2 => ?_)
  have hX8 := hP.2.2.2.2.2.2.2.2.2.1
  refine l_h1327_0 (dn := 0) ?_
  have hA : agr (fun i => n0 ≤ i) w1 w2 := pfx_gro hp2
  exact KKn w2 (obk_own hbn ho hA) (P_trans (P_chg hc) (P_own hA)) (gro_mono (n := 2) (m := 11) ⟨by have := hc.2.1; omega, by have := hc.2.2; omega⟩ (by decide) (by omega))
