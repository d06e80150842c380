/-! THE LAW: one turn: holes. Rows laid by program (wip/p63/wk.py, hw.py, lawcase.py, mk98zt.py). -/
theorem l_hole1 {w : pW} {b n0 : Nat} (hbn : b + 57 ≤ n0) {S : St} {L M : List St} {K : St} (hk : obk w b S L M K) {c : Nat} {X : Sh} (hu : shAt w (fun i => n0 ≤ i) (fun i => ¬ inO b i) c X) (hR : Rel S X) (hlw : n0 ≤ w.length) {k n ws aw s : Nat} {x y px py grid what : Int} {Φ : Option Value → pW → Prop} {p q : Int} (sx : sm px) (sy : sm py) (hin : inSq px py) (KK1 : ∀ w' : pW, (X.2.2.1 < 8) → obk w' b (((S.u_hx (uZ S.hx S.hn.toNat px)).u_hy (uZ S.hy S.hn.toNat py)).u_hn (S.hn + 1)) (pshL S L) M K → chg b w w' → qE 158 (1259, [(16, .int (iI 1)), (15, .int (iI what)), (14, .int (iI q)), (13, .int (iI p)), (12, .int (iI py)), (11, .int (iI px)), (10, .int (iI grid)), (9, .int (iI 1)), (8, .ref c), (7, .int (iI y)), (6, .int (iI x)), (5, .int (iI (k : Int))), (4, .int (iI (n : Int))), (3, .ref ws), (2, .ref aw), (1, .ref b), (0, .ref s)], [], w') Φ) (KK0 : ∀ w' : pW, obk w' b S L M K → chg b w w' → qE 158 (1259, [(16, .int (iI 1)), (15, .int (iI what)), (14, .int (iI q)), (13, .int (iI p)), (12, .int (iI py)), (11, .int (iI px)), (10, .int (iI grid)), (9, .int (iI 0)), (8, .ref c), (7, .int (iI y)), (6, .int (iI x)), (5, .int (iI (k : Int))), (4, .int (iI (n : Int))), (3, .ref ws), (2, .ref aw), (1, .ref b), (0, .ref s)], [], w') Φ) : qE 158 (1206, [(16, .int (iI 1)), (15, .int (iI what)), (14, .int (iI q)), (13, .int (iI p)), (12, .int (iI py)), (11, .int (iI px)), (10, .int (iI grid)), (9, .int (iI 1)), (8, .ref c), (7, .int (iI y)), (6, .int (iI x)), (5, .int (iI (k : Int))), (4, .int (iI (n : Int))), (3, .ref ws), (2, .ref aw), (1, .ref b), (0, .ref s)], [], w) Φ := by
  have hko := obk_ok hk
  have hIn := hR.In hko
  have hX9 := hIn.1
  obtain ⟨fb, hbo⟩ := obk_obj hk
  obtain ⟨fc, hco⟩ := sh_obj hu
  have hfs := Sh.free_sm X
  have has := Sh.at_sm X px py
  obtain ⟨pa, fa, ha, pf, gf, hf, ff, hP⟩ := id hu
  have hX8 := hP.2.2.2.2.2.2.2.2.2.1
  have ehn := hR.2.2.2.1
  refine pe_go (pc := 1206) rfl (s_iload rfl) ?_
  refine pe_go rfl (s_if_eq_f ⟨by decide, by decide⟩ (by decide)) ?_
  refine pe_go (pc := 1211) rfl (s_aload rfl) ?_
  refine pe_go (pc := 1213) rfl (s_getf (v := .ref ha) hP.2.1 rfl) ?_
  refine pe_go (pc := 1216) rfl (s_alenR (kd := 0) ⟨hP.2.2.2.2.2.2.2.2.1, by decide⟩) ?_
  refine pe_go (pc := 1217) rfl (s_bipush (z := 8) rfl) ?_
  by_cases c1 : 8 ≤ ((X.2.2.1 : Nat) : Int)
  · skip
    refine pe_go rfl (s_icmp_ge_t ⟨by omega, by omega⟩ ⟨by decide, by decide⟩ c1) ?_
    refine pe_go (pc := 1226) rfl (s_iconst (z := 0) rfl) ?_
    refine pe_go (pc := 1227) rfl (s_istore (lv' := [(9, .int (iI 0)), (16, .int (iI 1)), (15, .int (iI what)), (14, .int (iI q)), (13, .int (iI p)), (12, .int (iI py)), (11, .int (iI px)), (10, .int (iI grid)), (8, .ref c), (7, .int (iI y)), (6, .int (iI x)), (5, .int (iI (k : Int))), (4, .int (iI (n : Int))), (3, .ref ws), (2, .ref aw), (1, .ref b), (0, .ref s)]) rfl) ?_
    refine pe_go (pc := 1229) rfl (s_aload_n rfl) ?_
    refine pe_go (pc := 1230) rfl (s_iload rfl) ?_
    refine pe_go (pc := 1232) rfl (s_iload rfl) ?_
    refine pe_callE rfl (s_invV rfl hbo rfl rfl) (k_holeN hk sx sy (fun z => by first | exact hin z.1 | omega)) ?_
    rintro _ w2 ⟨rfl, ho2, hc2⟩
    refine pe_go (pc := 1237) rfl (s_iload rfl) ?_
    refine pe_go rfl (s_if_eq_t ⟨by decide, by decide⟩ (by decide)) ?_
    refine pe_go (pc := 1253) rfl (s_iconst (z := -1) rfl) ?_
    refine pe_go rfl (s_icmp_eq_t ⟨by decide, by decide⟩ ⟨by decide, by decide⟩ (by decide)) ?_
    refine pe_few (lv := [(16, .int (iI 1)), (15, .int (iI what)), (14, .int (iI q)), (13, .int (iI p)), (12, .int (iI py)), (11, .int (iI px)), (10, .int (iI grid)), (9, .int (iI 0)), (8, .ref c), (7, .int (iI y)), (6, .int (iI x)), (5, .int (iI (k : Int))), (4, .int (iI (n : Int))), (3, .ref ws), (2, .ref aw), (1, .ref b), (0, .ref s)]) rfl rfl (by intro q hq; simp only [List.mem_cons, List.not_mem_nil, or_false] at hq; rcases hq with rfl | rfl | rfl | rfl | rfl | rfl | rfl | rfl | rfl | rfl | rfl | rfl | rfl | rfl | rfl | rfl | rfl <;> rfl) ?_
    exact KK0 _ ho2 hc2
  · skip
    refine pe_go rfl (s_icmp_ge_f ⟨by omega, by omega⟩ ⟨by decide, by decide⟩ c1) ?_
    refine pe_go (pc := 1222) rfl (s_iconst (z := 1) rfl) ?_
    refine pe_go (pc := 1223) rfl s_goto ?_
    refine pe_go (pc := 1227) rfl (s_istore (lv' := [(9, .int (iI 1)), (16, .int (iI 1)), (15, .int (iI what)), (14, .int (iI q)), (13, .int (iI p)), (12, .int (iI py)), (11, .int (iI px)), (10, .int (iI grid)), (8, .ref c), (7, .int (iI y)), (6, .int (iI x)), (5, .int (iI (k : Int))), (4, .int (iI (n : Int))), (3, .ref ws), (2, .ref aw), (1, .ref b), (0, .ref s)]) rfl) ?_
    refine pe_go (pc := 1229) rfl (s_aload_n rfl) ?_
    refine pe_go (pc := 1230) rfl (s_iload rfl) ?_
    refine pe_go (pc := 1232) rfl (s_iload rfl) ?_
    refine pe_callE rfl (s_invV rfl hbo rfl rfl) (k_holeY hk hin (by omega)) ?_
    rintro _ w3 ⟨rfl, ho3, hc3⟩
    obtain ⟨pa2, fa2, ha2, pf2, gf2, hf2, ff2, hP2⟩ := sh_chg hbn hu hc3
    refine pe_go (pc := 1237) rfl (s_iload rfl) ?_
    refine pe_go rfl (s_if_eq_f ⟨by decide, by decide⟩ (by decide)) ?_
    refine pe_go (pc := 1242) rfl (s_aload rfl) ?_
    refine pe_go (pc := 1244) rfl (s_getf (v := .ref ha2) hP2.2.1 rfl) ?_
    refine pe_go (pc := 1247) rfl (s_alenR (kd := 0) ⟨hP2.2.2.2.2.2.2.2.2.1, by decide⟩) ?_
    refine pe_go (pc := 1248) rfl (s_iconst (z := 1) rfl) ?_
    refine pe_go (pc := 1249) rfl s_iadd ?_
    refine pe_go (pc := 1250) rfl s_goto ?_
    refine pe_go rfl (s_icmp_eq_t ⟨by omega, by omega⟩ ⟨by omega, by omega⟩ (by omega)) ?_
    refine pe_few (lv := [(16, .int (iI 1)), (15, .int (iI what)), (14, .int (iI q)), (13, .int (iI p)), (12, .int (iI py)), (11, .int (iI px)), (10, .int (iI grid)), (9, .int (iI 1)), (8, .ref c), (7, .int (iI y)), (6, .int (iI x)), (5, .int (iI (k : Int))), (4, .int (iI (n : Int))), (3, .ref ws), (2, .ref aw), (1, .ref b), (0, .ref s)]) rfl rfl (by intro q hq; simp only [List.mem_cons, List.not_mem_nil, or_false] at hq; rcases hq with rfl | rfl | rfl | rfl | rfl | rfl | rfl | rfl | rfl | rfl | rfl | rfl | rfl | rfl | rfl | rfl | rfl <;> rfl) ?_
    exact KK1 _ (by omega) ho3 hc3
theorem l_hole0 {w : pW} {b n0 : Nat} (hbn : b + 57 ≤ n0) {S : St} {L M : List St} {K : St} (hk : obk w b S L M K) {c : Nat} {X : Sh} (hu : shAt w (fun i => n0 ≤ i) (fun i => ¬ inO b i) c X) (hR : Rel S X) (hlw : n0 ≤ w.length) {k n ws aw s : Nat} {x y px py grid what : Int} {Φ : Option Value → pW → Prop} {p q : Int} (sx : sm px) (sy : sm py) (hin : ¬ inSq px py)  (KK0 : ∀ w' : pW, obk w' b S L M K → chg b w w' → qE 158 (1259, [(16, .int (iI 0)), (15, .int (iI what)), (14, .int (iI q)), (13, .int (iI p)), (12, .int (iI py)), (11, .int (iI px)), (10, .int (iI grid)), (9, .int (iI 0)), (8, .ref c), (7, .int (iI y)), (6, .int (iI x)), (5, .int (iI (k : Int))), (4, .int (iI (n : Int))), (3, .ref ws), (2, .ref aw), (1, .ref b), (0, .ref s)], [], w') Φ) : qE 158 (1206, [(16, .int (iI 0)), (15, .int (iI what)), (14, .int (iI q)), (13, .int (iI p)), (12, .int (iI py)), (11, .int (iI px)), (10, .int (iI grid)), (9, .int (iI 1)), (8, .ref c), (7, .int (iI y)), (6, .int (iI x)), (5, .int (iI (k : Int))), (4, .int (iI (n : Int))), (3, .ref ws), (2, .ref aw), (1, .ref b), (0, .ref s)], [], w) Φ := by
  have hko := obk_ok hk
  have hIn := hR.In hko
  have hX9 := hIn.1
  obtain ⟨fb, hbo⟩ := obk_obj hk
  obtain ⟨fc, hco⟩ := sh_obj hu
  have hfs := Sh.free_sm X
  have has := Sh.at_sm X px py
  obtain ⟨pa, fa, ha, pf, gf, hf, ff, hP⟩ := id hu
  have hX8 := hP.2.2.2.2.2.2.2.2.2.1
  have ehn := hR.2.2.2.1
  refine pe_go (pc := 1206) rfl (s_iload rfl) ?_
  refine pe_go rfl (s_if_eq_t ⟨by decide, by decide⟩ (by decide)) ?_
  refine pe_go (pc := 1226) rfl (s_iconst (z := 0) rfl) ?_
  refine pe_go (pc := 1227) rfl (s_istore (lv' := [(9, .int (iI 0)), (16, .int (iI 0)), (15, .int (iI what)), (14, .int (iI q)), (13, .int (iI p)), (12, .int (iI py)), (11, .int (iI px)), (10, .int (iI grid)), (8, .ref c), (7, .int (iI y)), (6, .int (iI x)), (5, .int (iI (k : Int))), (4, .int (iI (n : Int))), (3, .ref ws), (2, .ref aw), (1, .ref b), (0, .ref s)]) rfl) ?_
  refine pe_go (pc := 1229) rfl (s_aload_n rfl) ?_
  refine pe_go (pc := 1230) rfl (s_iload rfl) ?_
  refine pe_go (pc := 1232) rfl (s_iload rfl) ?_
  refine pe_callE rfl (s_invV rfl hbo rfl rfl) (k_holeN hk sx sy (fun z => by first | exact hin z.1 | omega)) ?_
  rintro _ w1 ⟨rfl, ho1, hc1⟩
  refine pe_go (pc := 1237) rfl (s_iload rfl) ?_
  refine pe_go rfl (s_if_eq_t ⟨by decide, by decide⟩ (by decide)) ?_
  refine pe_go (pc := 1253) rfl (s_iconst (z := -1) rfl) ?_
  refine pe_go rfl (s_icmp_eq_t ⟨by decide, by decide⟩ ⟨by decide, by decide⟩ (by decide)) ?_
  refine pe_few (lv := [(16, .int (iI 0)), (15, .int (iI what)), (14, .int (iI q)), (13, .int (iI p)), (12, .int (iI py)), (11, .int (iI px)), (10, .int (iI grid)), (9, .int (iI 0)), (8, .ref c), (7, .int (iI y)), (6, .int (iI x)), (5, .int (iI (k : Int))), (4, .int (iI (n : Int))), (3, .ref ws), (2, .ref aw), (1, .ref b), (0, .ref s)]) rfl rfl (by intro q hq; simp only [List.mem_cons, List.not_mem_nil, or_false] at hq; rcases hq with rfl | rfl | rfl | rfl | rfl | rfl | rfl | rfl | rfl | rfl | rfl | rfl | rfl | rfl | rfl | rfl | rfl <;> rfl) ?_
  exact KK0 _ ho1 hc1
theorem l_hcopy {w : pW} {m : Nat} (hm : w.length = m) {O Q : Nat → Prop} {c : Nat} {X : Sh} {pa fa ha : Nat} {pf gf hf : Nat → Option Nat} {ff : Nat → Nat} (hP : shP w O Q c X pa fa ha pf gf hf ff) {b k n ws aw s : Nat} {x y px py grid what p q inn dn : Int} {Φ : Option Value → pW → Prop} (KK : ∀ gg : Nat → Option Nat, (∀ j : Nat, j < X.2.2.1 → gg j = hf j) → qE 158 (1305, [(17, .ref m), (16, .int (iI inn)), (15, .int (iI what)), (14, .int (iI q)), (13, .int (iI p)), (12, .int (iI py)), (11, .int (iI px)), (10, .int (iI grid)), (9, .int (iI dn)), (8, .ref c), (7, .int (iI y)), (6, .int (iI x)), (5, .int (iI (k : Int))), (4, .int (iI (n : Int))), (3, .ref ws), (2, .ref aw), (1, .ref b), (0, .ref s)], [], w ++ [.inl (3, (X.2.2.1 + 1), rfs gg)]) Φ) : ∀ (d i : Nat) (gg : Nat → Option Nat), i + d = X.2.2.1 → (∀ j : Nat, j < i → gg j = hf j) → qE 158 (1275, [(18, .int (iI (i : Int))), (17, .ref m), (16, .int (iI inn)), (15, .int (iI what)), (14, .int (iI q)), (13, .int (iI p)), (12, .int (iI py)), (11, .int (iI px)), (10, .int (iI grid)), (9, .int (iI dn)), (8, .ref c), (7, .int (iI y)), (6, .int (iI x)), (5, .int (iI (k : Int))), (4, .int (iI (n : Int))), (3, .ref ws), (2, .ref aw), (1, .ref b), (0, .ref s)], [], w ++ [.inl (3, (X.2.2.1 + 1), rfs gg)]) Φ := by
  have hX8 := hP.2.2.2.2.2.2.2.2.2.1
  intro d
  induction d with
  | zero =>
    intro i gg hi hg
    have ei : i = X.2.2.1 := by omega
    subst ei
    refine pe_go (pc := 1275) rfl (s_iload rfl) ?_
    refine pe_go (pc := 1277) rfl (s_aload rfl) ?_
    refine pe_go (pc := 1279) rfl (s_getf (v := .ref ha) (cell_app hP.2.1) rfl) ?_
    refine pe_go (pc := 1282) rfl (s_alenR (kd := 0) ⟨(cell_app hP.2.2.2.2.2.2.2.2.1), by decide⟩) ?_
    refine pe_go rfl (s_icmp_ge_t ⟨by omega, by omega⟩ ⟨by omega, by omega⟩ (by omega)) ?_
    refine pe_few (lv := [(17, .ref m), (16, .int (iI inn)), (15, .int (iI what)), (14, .int (iI q)), (13, .int (iI p)), (12, .int (iI py)), (11, .int (iI px)), (10, .int (iI grid)), (9, .int (iI dn)), (8, .ref c), (7, .int (iI y)), (6, .int (iI x)), (5, .int (iI (k : Int))), (4, .int (iI (n : Int))), (3, .ref ws), (2, .ref aw), (1, .ref b), (0, .ref s)]) rfl rfl (by intro q hq; simp only [List.mem_cons, List.not_mem_nil, or_false] at hq; rcases hq with rfl | rfl | rfl | rfl | rfl | rfl | rfl | rfl | rfl | rfl | rfl | rfl | rfl | rfl | rfl | rfl | rfl | rfl <;> rfl) ?_
    exact KK gg hg
  | succ d ih =>
    intro i gg hi hg
    obtain ⟨ri, xi, yi, eri, -, hri, -⟩ := hP.2.2.2.2.2.2.2.2.2.2 i (by omega)
    refine pe_go (pc := 1275) rfl (s_iload rfl) ?_
    refine pe_go (pc := 1277) rfl (s_aload rfl) ?_
    refine pe_go (pc := 1279) rfl (s_getf (v := .ref ha) (cell_app hP.2.1) rfl) ?_
    refine pe_go (pc := 1282) rfl (s_alenR (kd := 0) ⟨cell_app hP.2.2.2.2.2.2.2.2.1, by decide⟩) ?_
    refine pe_go rfl (s_icmp_ge_f ⟨by omega, by omega⟩ ⟨by omega, by omega⟩ (by omega)) ?_
    refine pe_go (pc := 1286) rfl (s_aload rfl) ?_
    refine pe_go (pc := 1288) rfl (s_iload rfl) ?_
    refine pe_go (pc := 1290) rfl (s_aload rfl) ?_
    refine pe_go (pc := 1292) rfl (s_getf (v := .ref ha) (cell_app hP.2.1) rfl) ?_
    refine pe_go (pc := 1295) rfl (s_iload rfl) ?_
    refine pe_go (pc := 1297) rfl (s_aald (cell_app hP.2.2.2.2.2.2.2.2.1) (k := i) (by omega) (by omega) eri) ?_
    refine pe_go (pc := 1298) rfl (s_aast (kd := 3) (k := i) (w' := w ++ [.inl (3, (X.2.2.1 + 1), rfs (va_up gg i (some ri)))]) (get_end hm) (holds_row (cell_app hri)) rfl ⟨by omega, by omega⟩ (set_end hm)) ?_
    refine pe_go (pc := 1299) rfl (s_iinc (x := (i : Int)) (y := ((i + 1 : Nat) : Int)) rfl (by omega) (lv' := [(18, .int (iI ((i + 1 : Nat) : Int))), (17, .ref m), (16, .int (iI inn)), (15, .int (iI what)), (14, .int (iI q)), (13, .int (iI p)), (12, .int (iI py)), (11, .int (iI px)), (10, .int (iI grid)), (9, .int (iI dn)), (8, .ref c), (7, .int (iI y)), (6, .int (iI x)), (5, .int (iI (k : Int))), (4, .int (iI (n : Int))), (3, .ref ws), (2, .ref aw), (1, .ref b), (0, .ref s)]) rfl) ?_
    refine pe_go (pc := 1302) rfl s_goto ?_
    refine ih (i + 1) (va_up gg i (some ri)) (by omega) (fun j hj => ?_)
    by_cases e : j = i
    · rw [e, vaU_at, eri]
    · rw [vaU_ne e]; exact hg j (by omega)
theorem l_fcopy {w : pW} {m : Nat} (hm : w.length = m) {O Q : Nat → Prop} {c : Nat} {X : Sh} {pa fa ha : Nat} {pf gf hf : Nat → Option Nat} {ff : Nat → Nat} (hP : shP w O Q c X pa fa ha pf gf hf ff) {b k n ws aw s : Nat} {x y px py grid what p q inn dn : Int} {Φ : Option Value → pW → Prop} (KK : ∀ gg : Nat → Option Nat, (∀ j : Nat, j < (X.2.2.1 - 1) → gg j = hf j) → qE 158 (1449, [(17, .ref m), (16, .int (iI inn)), (15, .int (iI what)), (14, .int (iI q)), (13, .int (iI p)), (12, .int (iI py)), (11, .int (iI px)), (10, .int (iI grid)), (9, .int (iI dn)), (8, .ref c), (7, .int (iI y)), (6, .int (iI x)), (5, .int (iI (k : Int))), (4, .int (iI (n : Int))), (3, .ref ws), (2, .ref aw), (1, .ref b), (0, .ref s)], [], w ++ [.inl (3, (X.2.2.1 - 1), rfs gg)]) Φ) : ∀ (d i : Nat) (gg : Nat → Option Nat), i + d = (X.2.2.1 - 1) → (∀ j : Nat, j < i → gg j = hf j) → qE 158 (1422, [(18, .int (iI (i : Int))), (17, .ref m), (16, .int (iI inn)), (15, .int (iI what)), (14, .int (iI q)), (13, .int (iI p)), (12, .int (iI py)), (11, .int (iI px)), (10, .int (iI grid)), (9, .int (iI dn)), (8, .ref c), (7, .int (iI y)), (6, .int (iI x)), (5, .int (iI (k : Int))), (4, .int (iI (n : Int))), (3, .ref ws), (2, .ref aw), (1, .ref b), (0, .ref s)], [], w ++ [.inl (3, (X.2.2.1 - 1), rfs gg)]) Φ := by
  have hX8 := hP.2.2.2.2.2.2.2.2.2.1
  intro d
  induction d with
  | zero =>
    intro i gg hi hg
    have ei : i = (X.2.2.1 - 1) := by omega
    subst ei
    refine pe_go (pc := 1422) rfl (s_iload rfl) ?_
    refine pe_go (pc := 1424) rfl (s_aload rfl) ?_
    refine pe_go (pc := 1426) rfl (s_alenR (kd := 0) ⟨get_end hm, by decide⟩) ?_
    refine pe_go rfl (s_icmp_ge_t ⟨by omega, by omega⟩ ⟨by omega, by omega⟩ (by omega)) ?_
    refine pe_few (lv := [(17, .ref m), (16, .int (iI inn)), (15, .int (iI what)), (14, .int (iI q)), (13, .int (iI p)), (12, .int (iI py)), (11, .int (iI px)), (10, .int (iI grid)), (9, .int (iI dn)), (8, .ref c), (7, .int (iI y)), (6, .int (iI x)), (5, .int (iI (k : Int))), (4, .int (iI (n : Int))), (3, .ref ws), (2, .ref aw), (1, .ref b), (0, .ref s)]) rfl rfl (by intro q hq; simp only [List.mem_cons, List.not_mem_nil, or_false] at hq; rcases hq with rfl | rfl | rfl | rfl | rfl | rfl | rfl | rfl | rfl | rfl | rfl | rfl | rfl | rfl | rfl | rfl | rfl | rfl <;> rfl) ?_
    exact KK gg hg
  | succ d ih =>
    intro i gg hi hg
    obtain ⟨ri, xi, yi, eri, -, hri, -⟩ := hP.2.2.2.2.2.2.2.2.2.2 i (by omega)
    refine pe_go (pc := 1422) rfl (s_iload rfl) ?_
    refine pe_go (pc := 1424) rfl (s_aload rfl) ?_
    refine pe_go (pc := 1426) rfl (s_alenR (kd := 0) ⟨get_end hm, by decide⟩) ?_
    refine pe_go rfl (s_icmp_ge_f ⟨by omega, by omega⟩ ⟨by omega, by omega⟩ (by omega)) ?_
    refine pe_go (pc := 1430) rfl (s_aload rfl) ?_
    refine pe_go (pc := 1432) rfl (s_iload rfl) ?_
    refine pe_go (pc := 1434) rfl (s_aload rfl) ?_
    refine pe_go (pc := 1436) rfl (s_getf (v := .ref ha) (cell_app hP.2.1) rfl) ?_
    refine pe_go (pc := 1439) rfl (s_iload rfl) ?_
    refine pe_go (pc := 1441) rfl (s_aald (cell_app hP.2.2.2.2.2.2.2.2.1) (k := i) (by omega) (by omega) eri) ?_
    refine pe_go (pc := 1442) rfl (s_aast (kd := 3) (k := i) (w' := w ++ [.inl (3, (X.2.2.1 - 1), rfs (va_up gg i (some ri)))]) (get_end hm) (holds_row (cell_app hri)) rfl ⟨by omega, by omega⟩ (set_end hm)) ?_
    refine pe_go (pc := 1443) rfl (s_iinc (x := (i : Int)) (y := ((i + 1 : Nat) : Int)) rfl (by omega) (lv' := [(18, .int (iI ((i + 1 : Nat) : Int))), (17, .ref m), (16, .int (iI inn)), (15, .int (iI what)), (14, .int (iI q)), (13, .int (iI p)), (12, .int (iI py)), (11, .int (iI px)), (10, .int (iI grid)), (9, .int (iI dn)), (8, .ref c), (7, .int (iI y)), (6, .int (iI x)), (5, .int (iI (k : Int))), (4, .int (iI (n : Int))), (3, .ref ws), (2, .ref aw), (1, .ref b), (0, .ref s)]) rfl) ?_
    refine pe_go (pc := 1446) rfl s_goto ?_
    refine ih (i + 1) (va_up gg i (some ri)) (by omega) (fun j hj => ?_)
    by_cases e : j = i
    · rw [e, vaU_at, eri]
    · rw [vaU_ne e]; exact hg j (by omega)
