/-! THE LAW: one turn: smoothed. Rows laid by program (wip/p63/wk.py, hw.py, lawcase.py, mk98zx.py). -/
theorem Sh.layI_pt {X : Sh} (hI : X.In) {x y h : Int} (hi : inSq x y) (hh : -9999 ≤ h ∧ h ≤ 9999) {k n : Nat} (hn : 0 + n ≤ 40) : (Sh.layI k x y n 0 (X.uP k (some (x, y, h)))).1 k = some (x, y, h) := by
  have hs : ((X.uP k (some (x, y, h))).1 k).isSome = true := by rw [Sh.uP_at]; rfl
  rw [(Sh.layI_ok n 0 _ hn (Sh.In_uP hI hi hh.1 hh.2) hs).2.1]
  exact Sh.uP_at _ _ _
theorem Sh.lays_eq (X : Sh) (k : Nat) (x y h : Int) : X.lays k x y h = Sh.layI k x y 40 0 (X.uP k (some (x, y, h))) := rfl
theorem Sh.lays_at {X : Sh} (hI : X.In) {x y h : Int} (hi : inSq x y) (hh : -9999 ≤ h ∧ h ≤ 9999) {k : Nat} : (X.lays k x y h).1 k = some (x, y, h) := by
  rw [Sh.lays_eq]
  exact Sh.layI_pt hI hi hh (by omega)
theorem St.smX_rw (T : St) (i : Nat) : T.sE i T.xs / T.smN i = T.smX i := rfl
theorem St.smY_rw (T : St) (i : Nat) : T.sE i T.ys / T.smN i = T.smY i := rfl
theorem l_smJ {w : pW} {b k n ws aw s t : Nat} {Φ : Option Value → pW → Prop} {T : St} (ht : tb w t T) {O Q : Nat → Prop} {c : Nat} {X : Sh} {pa fa ha : Nat} {pf gf hf : Nat → Option Nat} {ff : Nat → Nat} (hP : shP w O Q c X pa fa ha pf gf hf ff) (hR : Rel T X) {i c9 : Nat} (hi : i < 40) (hl : T.loose i) (KK : qE 158 (1065, [(22, .int (iI (T.sE i T.ys))), (21, .int (iI (T.sE i T.xs))), (20, .int (iI (T.smN i))), (19, .int (iI (i : Int))), (18, .int (iI (c9 : Int))), (17, .ref t), (9, .int (iI 1)), (8, .ref c), (5, .int (iI (k : Int))), (4, .int (iI (n : Int))), (3, .ref ws), (2, .ref aw), (1, .ref b), (0, .ref s)], [], w) Φ) : ∀ (d j : Nat) (n9 sx sy : Int), j + d = 40 → n9 = T.sK i (fun _ => 1) j → sx = T.sK i T.xs j → sy = T.sK i T.ys j → qE 158 (1004, [(23, .int (iI (j : Int))), (22, .int (iI sy)), (21, .int (iI sx)), (20, .int (iI n9)), (19, .int (iI (i : Int))), (18, .int (iI (c9 : Int))), (17, .ref t), (9, .int (iI 1)), (8, .ref c), (5, .int (iI (k : Int))), (4, .int (iI (n : Int))), (3, .ref ws), (2, .ref aw), (1, .ref b), (0, .ref s)], [], w) Φ := by
  have hTo := tb_ok ht
  obtain ⟨fs, hto⟩ := tb_obj ht
  have hSA : shAt w O Q c X := ⟨pa, fa, ha, pf, gf, hf, ff, hP⟩
  obtain ⟨L9, M9, K9, pre, post, hb9, hO9⟩ := id ht
  intro d
  induction d with
  | zero =>
    intro j n9 sx sy hj e1 e2 e3
    have ej : j = 40 := by omega
    subst ej
    rw [T.sK_40 hTo hi hl] at e1 e2 e3
    have e1 : n9 = T.smN i := e1
    subst e1 e2 e3
    refine pe_go (pc := 1004) rfl (s_iload rfl) ?_
    refine pe_go (pc := 1006) rfl (s_bipush (z := 40) rfl) ?_
    refine pe_go rfl (s_icmp_ge_t ⟨by omega, by omega⟩ ⟨by decide, by decide⟩ (by decide)) ?_
    refine pe_few (lv := [(22, .int (iI (T.sE i T.ys))), (21, .int (iI (T.sE i T.xs))), (20, .int (iI (T.smN i))), (19, .int (iI (i : Int))), (18, .int (iI (c9 : Int))), (17, .ref t), (9, .int (iI 1)), (8, .ref c), (5, .int (iI (k : Int))), (4, .int (iI (n : Int))), (3, .ref ws), (2, .ref aw), (1, .ref b), (0, .ref s)]) rfl rfl (by intro q hq; simp only [List.mem_cons, List.not_mem_nil, or_false] at hq; rcases hq with rfl | rfl | rfl | rfl | rfl | rfl | rfl | rfl | rfl | rfl | rfl | rfl | rfl | rfl <;> rfl) ?_
    exact KK
  | succ d ih =>
    intro j n9 sx sy hj e1 e2 e3
    have hj4 : j < 40 := by omega
    by_cases hn : T.nr i j
    · obtain ⟨rj, erj, -, hrj⟩ := hP.2.2.2.2.1 j _ _ _ hj4 (hR.pt hj4 (hTo.nr i j hi hj4 hn))
      refine pe_go (pc := 1004) rfl (s_iload rfl) ?_
      refine pe_go (pc := 1006) rfl (s_bipush (z := 40) rfl) ?_
      refine pe_go rfl (s_icmp_ge_f ⟨by omega, by omega⟩ ⟨by decide, by decide⟩ (by omega)) ?_
      refine pe_go (pc := 1011) rfl (s_aload rfl) ?_
      refine pe_go (pc := 1013) rfl (s_iload rfl) ?_
      refine pe_go (pc := 1015) rfl (s_iload rfl) ?_
      refine pe_call rfl (s_invV rfl (OB.obj hb9 hO9) rfl rfl) (isEdge_y hb9 hO9 hi hj4 hn) ?_
      refine pe_go rfl (s_if_ne_t ⟨by decide, by decide⟩ (by decide)) ?_
      refine pe_go (pc := 1026) rfl (s_iinc (x := n9) (y := n9 + 1) rfl rfl (lv' := [(20, .int (iI (n9 + 1))), (23, .int (iI (j : Int))), (22, .int (iI sy)), (21, .int (iI sx)), (19, .int (iI (i : Int))), (18, .int (iI (c9 : Int))), (17, .ref t), (9, .int (iI 1)), (8, .ref c), (5, .int (iI (k : Int))), (4, .int (iI (n : Int))), (3, .ref ws), (2, .ref aw), (1, .ref b), (0, .ref s)]) rfl) ?_
      refine pe_go (pc := 1029) rfl (s_iload rfl) ?_
      refine pe_go (pc := 1031) rfl (s_aload rfl) ?_
      refine pe_go (pc := 1033) rfl (s_getf (v := .ref pa) hP.2.1 rfl) ?_
      refine pe_go (pc := 1036) rfl (s_iload rfl) ?_
      refine pe_go (pc := 1038) rfl (s_aald hP.2.2.1 (k := j) (by omega) (by omega) erj) ?_
      refine pe_go (pc := 1039) rfl (s_iconst (z := 0) rfl) ?_
      refine pe_go (pc := 1040) rfl (s_iald (n := 3) (f := row3 (T.xs j) (T.ys j) (T.hs j)) (v := T.xs j) hrj (k := 0) (by omega) (by omega) (by decide) rfl) ?_
      refine pe_go (pc := 1041) rfl s_iadd ?_
      refine pe_go (pc := 1042) rfl (s_istore (lv' := [(21, .int (iI (sx + (T.xs j)))), (20, .int (iI (n9 + 1))), (23, .int (iI (j : Int))), (22, .int (iI sy)), (19, .int (iI (i : Int))), (18, .int (iI (c9 : Int))), (17, .ref t), (9, .int (iI 1)), (8, .ref c), (5, .int (iI (k : Int))), (4, .int (iI (n : Int))), (3, .ref ws), (2, .ref aw), (1, .ref b), (0, .ref s)]) rfl) ?_
      refine pe_go (pc := 1044) rfl (s_iload rfl) ?_
      refine pe_go (pc := 1046) rfl (s_aload rfl) ?_
      refine pe_go (pc := 1048) rfl (s_getf (v := .ref pa) hP.2.1 rfl) ?_
      refine pe_go (pc := 1051) rfl (s_iload rfl) ?_
      refine pe_go (pc := 1053) rfl (s_aald hP.2.2.1 (k := j) (by omega) (by omega) erj) ?_
      refine pe_go (pc := 1054) rfl (s_iconst (z := 1) rfl) ?_
      refine pe_go (pc := 1055) rfl (s_iald (n := 3) (f := row3 (T.xs j) (T.ys j) (T.hs j)) (v := T.ys j) hrj (k := 1) (by omega) (by omega) (by decide) rfl) ?_
      refine pe_go (pc := 1056) rfl s_iadd ?_
      refine pe_go (pc := 1057) rfl (s_istore (lv' := [(22, .int (iI (sy + (T.ys j)))), (21, .int (iI (sx + (T.xs j)))), (20, .int (iI (n9 + 1))), (23, .int (iI (j : Int))), (19, .int (iI (i : Int))), (18, .int (iI (c9 : Int))), (17, .ref t), (9, .int (iI 1)), (8, .ref c), (5, .int (iI (k : Int))), (4, .int (iI (n : Int))), (3, .ref ws), (2, .ref aw), (1, .ref b), (0, .ref s)]) rfl) ?_
      refine pe_go (pc := 1059) rfl (s_iinc (x := (j : Int)) (y := ((j + 1 : Nat) : Int)) rfl (by omega) (lv' := [(23, .int (iI ((j + 1 : Nat) : Int))), (22, .int (iI (sy + (T.ys j)))), (21, .int (iI (sx + (T.xs j)))), (20, .int (iI (n9 + 1))), (19, .int (iI (i : Int))), (18, .int (iI (c9 : Int))), (17, .ref t), (9, .int (iI 1)), (8, .ref c), (5, .int (iI (k : Int))), (4, .int (iI (n : Int))), (3, .ref ws), (2, .ref aw), (1, .ref b), (0, .ref s)]) rfl) ?_
      refine pe_go (pc := 1062) rfl s_goto ?_
      refine pe_few (lv := [(23, .int (iI ((j + 1 : Nat) : Int))), (22, .int (iI (sy + T.ys j))), (21, .int (iI (sx + T.xs j))), (20, .int (iI (n9 + 1))), (19, .int (iI (i : Int))), (18, .int (iI (c9 : Int))), (17, .ref t), (9, .int (iI 1)), (8, .ref c), (5, .int (iI (k : Int))), (4, .int (iI (n : Int))), (3, .ref ws), (2, .ref aw), (1, .ref b), (0, .ref s)]) rfl rfl (by intro q hq; simp only [List.mem_cons, List.not_mem_nil, or_false] at hq; rcases hq with rfl | rfl | rfl | rfl | rfl | rfl | rfl | rfl | rfl | rfl | rfl | rfl | rfl | rfl | rfl <;> rfl) ?_
      exact ih (j + 1) _ _ _ (by omega) (by rw [St.sK_y hn, e1]) (by rw [St.sK_y hn, e2]) (by rw [St.sK_y hn, e3])
    · skip
      refine pe_go (pc := 1004) rfl (s_iload rfl) ?_
      refine pe_go (pc := 1006) rfl (s_bipush (z := 40) rfl) ?_
      refine pe_go rfl (s_icmp_ge_f ⟨by omega, by omega⟩ ⟨by decide, by decide⟩ (by omega)) ?_
      refine pe_go (pc := 1011) rfl (s_aload rfl) ?_
      refine pe_go (pc := 1013) rfl (s_iload rfl) ?_
      refine pe_go (pc := 1015) rfl (s_iload rfl) ?_
      refine pe_call rfl (s_invV rfl (OB.obj hb9 hO9) rfl rfl) (isEdge_n hb9 hO9 hi hj4 hn) ?_
      refine pe_go rfl (s_if_ne_f ⟨by decide, by decide⟩ (by decide)) ?_
      refine pe_go (pc := 1023) rfl s_goto ?_
      refine pe_go (pc := 1059) rfl (s_iinc (x := (j : Int)) (y := ((j + 1 : Nat) : Int)) rfl (by omega) (lv' := [(23, .int (iI ((j + 1 : Nat) : Int))), (22, .int (iI sy)), (21, .int (iI sx)), (20, .int (iI n9)), (19, .int (iI (i : Int))), (18, .int (iI (c9 : Int))), (17, .ref t), (9, .int (iI 1)), (8, .ref c), (5, .int (iI (k : Int))), (4, .int (iI (n : Int))), (3, .ref ws), (2, .ref aw), (1, .ref b), (0, .ref s)]) rfl) ?_
      refine pe_go (pc := 1062) rfl s_goto ?_
      refine pe_few (lv := [(23, .int (iI ((j + 1 : Nat) : Int))), (22, .int (iI sy)), (21, .int (iI sx)), (20, .int (iI n9)), (19, .int (iI (i : Int))), (18, .int (iI (c9 : Int))), (17, .ref t), (9, .int (iI 1)), (8, .ref c), (5, .int (iI (k : Int))), (4, .int (iI (n : Int))), (3, .ref ws), (2, .ref aw), (1, .ref b), (0, .ref s)]) rfl rfl (by intro q hq; simp only [List.mem_cons, List.not_mem_nil, or_false] at hq; rcases hq with rfl | rfl | rfl | rfl | rfl | rfl | rfl | rfl | rfl | rfl | rfl | rfl | rfl | rfl | rfl <;> rfl) ?_
      exact ih (j + 1) _ _ _ (by omega) (by rw [St.sK_n hn, e1]) (by rw [St.sK_n hn, e2]) (by rw [St.sK_n hn, e3])
theorem l_sm972n {w : pW} {b k n ws aw s t : Nat} {Φ : Option Value → pW → Prop} {T : St} (ht : tb w t T) {O Q : Nat → Prop} {c : Nat} {X : Sh} {pa fa ha : Nat} {pf gf hf : Nat → Option Nat} {ff : Nat → Nat} (hP : shP w O Q c X pa fa ha pf gf hf ff) (hR : Rel T X) {i c9 : Nat} (hi : i < 40) (hl : ¬ T.loose i) (KK : qE 158 (972, [(19, .int (iI ((i + 1 : Nat) : Int))), (18, .int (iI (c9 : Int))), (17, .ref t), (9, .int (iI 1)), (8, .ref c), (5, .int (iI (k : Int))), (4, .int (iI (n : Int))), (3, .ref ws), (2, .ref aw), (1, .ref b), (0, .ref s)], [], w) Φ) : qE 158 (972, [(19, .int (iI (i : Int))), (18, .int (iI (c9 : Int))), (17, .ref t), (9, .int (iI 1)), (8, .ref c), (5, .int (iI (k : Int))), (4, .int (iI (n : Int))), (3, .ref ws), (2, .ref aw), (1, .ref b), (0, .ref s)], [], w) Φ := by
  have hTo := tb_ok ht
  obtain ⟨fs, hto⟩ := tb_obj ht
  have hSA : shAt w O Q c X := ⟨pa, fa, ha, pf, gf, hf, ff, hP⟩
  refine pe_go (pc := 972) rfl (s_iload rfl) ?_
  refine pe_go (pc := 974) rfl (s_bipush (z := 40) rfl) ?_
  refine pe_go rfl (s_icmp_ge_f ⟨by omega, by omega⟩ ⟨by decide, by decide⟩ (by omega)) ?_
  refine pe_go (pc := 979) rfl (s_aload rfl) ?_
  refine pe_go (pc := 981) rfl (s_iload rfl) ?_
  refine pe_call rfl (s_invV rfl hP.2.1 rfl rfl) (goes_n hSA hR hTo (Or.inr ⟨i, hi, rfl⟩) (fun p e z => hl (by rw [show i = p by omega]; exact z))) ?_
  refine pe_go rfl (s_if_ne_f ⟨by decide, by decide⟩ (by decide)) ?_
  refine pe_go (pc := 989) rfl s_goto ?_
  refine pe_go (pc := 1169) rfl (s_iinc (x := (i : Int)) (y := ((i + 1 : Nat) : Int)) rfl (by omega) (lv' := [(19, .int (iI ((i + 1 : Nat) : Int))), (18, .int (iI (c9 : Int))), (17, .ref t), (9, .int (iI 1)), (8, .ref c), (5, .int (iI (k : Int))), (4, .int (iI (n : Int))), (3, .ref ws), (2, .ref aw), (1, .ref b), (0, .ref s)]) rfl) ?_
  refine pe_go (pc := 1172) rfl s_goto ?_
  refine pe_few (lv := [(19, .int (iI ((i + 1 : Nat) : Int))), (18, .int (iI (c9 : Int))), (17, .ref t), (9, .int (iI 1)), (8, .ref c), (5, .int (iI (k : Int))), (4, .int (iI (n : Int))), (3, .ref ws), (2, .ref aw), (1, .ref b), (0, .ref s)]) rfl rfl (by intro q hq; simp only [List.mem_cons, List.not_mem_nil, or_false] at hq; rcases hq with rfl | rfl | rfl | rfl | rfl | rfl | rfl | rfl | rfl | rfl | rfl <;> rfl) ?_
  exact KK
theorem l_sm972y {w : pW} {b k n ws aw s t : Nat} {Φ : Option Value → pW → Prop} {T : St} (ht : tb w t T) {O Q : Nat → Prop} {c : Nat} {X : Sh} {pa fa ha : Nat} {pf gf hf : Nat → Option Nat} {ff : Nat → Nat} (hP : shP w O Q c X pa fa ha pf gf hf ff) (hR : Rel T X) {i c9 : Nat} (hi : i < 40) (hl : T.loose i) (KK : qE 158 (1004, [(23, .int (iI ((0 : Nat) : Int))), (22, .int (iI 0)), (21, .int (iI 0)), (20, .int (iI 0)), (19, .int (iI (i : Int))), (18, .int (iI (c9 : Int))), (17, .ref t), (9, .int (iI 1)), (8, .ref c), (5, .int (iI (k : Int))), (4, .int (iI (n : Int))), (3, .ref ws), (2, .ref aw), (1, .ref b), (0, .ref s)], [], w) Φ) : qE 158 (972, [(19, .int (iI (i : Int))), (18, .int (iI (c9 : Int))), (17, .ref t), (9, .int (iI 1)), (8, .ref c), (5, .int (iI (k : Int))), (4, .int (iI (n : Int))), (3, .ref ws), (2, .ref aw), (1, .ref b), (0, .ref s)], [], w) Φ := by
  have hTo := tb_ok ht
  obtain ⟨fs, hto⟩ := tb_obj ht
  have hSA : shAt w O Q c X := ⟨pa, fa, ha, pf, gf, hf, ff, hP⟩
  refine pe_go (pc := 972) rfl (s_iload rfl) ?_
  refine pe_go (pc := 974) rfl (s_bipush (z := 40) rfl) ?_
  refine pe_go rfl (s_icmp_ge_f ⟨by omega, by omega⟩ ⟨by decide, by decide⟩ (by omega)) ?_
  refine pe_go (pc := 979) rfl (s_aload rfl) ?_
  refine pe_go (pc := 981) rfl (s_iload rfl) ?_
  refine pe_call rfl (s_invV rfl hP.2.1 rfl rfl) (goes_y hSA hR hTo hi hl) ?_
  refine pe_go rfl (s_if_ne_t ⟨by decide, by decide⟩ (by decide)) ?_
  refine pe_go (pc := 992) rfl (s_iconst (z := 0) rfl) ?_
  refine pe_go (pc := 993) rfl (s_istore (lv' := [(20, .int (iI 0)), (19, .int (iI (i : Int))), (18, .int (iI (c9 : Int))), (17, .ref t), (9, .int (iI 1)), (8, .ref c), (5, .int (iI (k : Int))), (4, .int (iI (n : Int))), (3, .ref ws), (2, .ref aw), (1, .ref b), (0, .ref s)]) rfl) ?_
  refine pe_go (pc := 995) rfl (s_iconst (z := 0) rfl) ?_
  refine pe_go (pc := 996) rfl (s_istore (lv' := [(21, .int (iI 0)), (20, .int (iI 0)), (19, .int (iI (i : Int))), (18, .int (iI (c9 : Int))), (17, .ref t), (9, .int (iI 1)), (8, .ref c), (5, .int (iI (k : Int))), (4, .int (iI (n : Int))), (3, .ref ws), (2, .ref aw), (1, .ref b), (0, .ref s)]) rfl) ?_
  refine pe_go (pc := 998) rfl (s_iconst (z := 0) rfl) ?_
  refine pe_go (pc := 999) rfl (s_istore (lv' := [(22, .int (iI 0)), (21, .int (iI 0)), (20, .int (iI 0)), (19, .int (iI (i : Int))), (18, .int (iI (c9 : Int))), (17, .ref t), (9, .int (iI 1)), (8, .ref c), (5, .int (iI (k : Int))), (4, .int (iI (n : Int))), (3, .ref ws), (2, .ref aw), (1, .ref b), (0, .ref s)]) rfl) ?_
  refine pe_go (pc := 1001) rfl (s_iconst (z := 0) rfl) ?_
  refine pe_go (pc := 1002) rfl (s_istore (lv' := [(23, .int (iI 0)), (22, .int (iI 0)), (21, .int (iI 0)), (20, .int (iI 0)), (19, .int (iI (i : Int))), (18, .int (iI (c9 : Int))), (17, .ref t), (9, .int (iI 1)), (8, .ref c), (5, .int (iI (k : Int))), (4, .int (iI (n : Int))), (3, .ref ws), (2, .ref aw), (1, .ref b), (0, .ref s)]) rfl) ?_
  refine pe_few (lv := [(23, .int (iI ((0 : Nat) : Int))), (22, .int (iI 0)), (21, .int (iI 0)), (20, .int (iI 0)), (19, .int (iI (i : Int))), (18, .int (iI (c9 : Int))), (17, .ref t), (9, .int (iI 1)), (8, .ref c), (5, .int (iI (k : Int))), (4, .int (iI (n : Int))), (3, .ref ws), (2, .ref aw), (1, .ref b), (0, .ref s)]) rfl rfl (by intro q hq; simp only [List.mem_cons, List.not_mem_nil, or_false] at hq; rcases hq with rfl | rfl | rfl | rfl | rfl | rfl | rfl | rfl | rfl | rfl | rfl | rfl | rfl | rfl | rfl <;> rfl) ?_
  exact KK
theorem l_sm972x {b k n ws aw s t : Nat} {Φ : Option Value → pW → Prop} {w : pW} {c c9 : Nat} (KK : qE 158 (1175, [(18, .int (iI (c9 : Int))), (17, .ref t), (9, .int (iI 1)), (8, .ref c), (5, .int (iI (k : Int))), (4, .int (iI (n : Int))), (3, .ref ws), (2, .ref aw), (1, .ref b), (0, .ref s)], [], w) Φ) : qE 158 (972, [(19, .int (iI ((40 : Nat) : Int))), (18, .int (iI (c9 : Int))), (17, .ref t), (9, .int (iI 1)), (8, .ref c), (5, .int (iI (k : Int))), (4, .int (iI (n : Int))), (3, .ref ws), (2, .ref aw), (1, .ref b), (0, .ref s)], [], w) Φ := by
  refine pe_go (pc := 972) rfl (s_iload rfl) ?_
  refine pe_go (pc := 974) rfl (s_bipush (z := 40) rfl) ?_
  refine pe_go rfl (s_icmp_ge_t ⟨by omega, by omega⟩ ⟨by decide, by decide⟩ (by decide)) ?_
  refine pe_few (lv := [(18, .int (iI (c9 : Int))), (17, .ref t), (9, .int (iI 1)), (8, .ref c), (5, .int (iI (k : Int))), (4, .int (iI (n : Int))), (3, .ref ws), (2, .ref aw), (1, .ref b), (0, .ref s)]) rfl rfl (by intro q hq; simp only [List.mem_cons, List.not_mem_nil, or_false] at hq; rcases hq with rfl | rfl | rfl | rfl | rfl | rfl | rfl | rfl | rfl | rfl <;> rfl) ?_
  exact KK
theorem l_sm1065n {w : pW} {b k n ws aw s t : Nat} {Φ : Option Value → pW → Prop} {T : St} (ht : tb w t T) {O Q : Nat → Prop} {c : Nat} {X : Sh} {pa fa ha : Nat} {pf gf hf : Nat → Option Nat} {ff : Nat → Nat} (hP : shP w O Q c X pa fa ha pf gf hf ff) (hR : Rel T X) {i c9 : Nat} (hi : i < 40) (hl : T.loose i) (ha9 : ¬ X.at (T.smX i) (T.smY i) < 0) (KK : qE 158 (972, [(19, .int (iI ((i + 1 : Nat) : Int))), (18, .int (iI (c9 : Int))), (17, .ref t), (9, .int (iI 1)), (8, .ref c), (5, .int (iI (k : Int))), (4, .int (iI (n : Int))), (3, .ref ws), (2, .ref aw), (1, .ref b), (0, .ref s)], [], w) Φ) : qE 158 (1065, [(22, .int (iI (T.sE i T.ys))), (21, .int (iI (T.sE i T.xs))), (20, .int (iI (T.smN i))), (19, .int (iI (i : Int))), (18, .int (iI (c9 : Int))), (17, .ref t), (9, .int (iI 1)), (8, .ref c), (5, .int (iI (k : Int))), (4, .int (iI (n : Int))), (3, .ref ws), (2, .ref aw), (1, .ref b), (0, .ref s)], [], w) Φ := by
  have hTo := tb_ok ht
  obtain ⟨fs, hto⟩ := tb_obj ht
  have hSA : shAt w O Q c X := ⟨pa, fa, ha, pf, gf, hf, ff, hP⟩
  obtain ⟨n1, n2⟩ := T.smN_b hTo hi hl
  have hsq := T.smX_sq hTo hi hl
  have sx : sm (T.smX i) := ⟨by have := hsq.1; omega, by have := hsq.2.1; omega⟩
  have sy : sm (T.smY i) := ⟨by have := hsq.2.2.1; omega, by have := hsq.2.2.2; omega⟩
  have bx := T.sK_b (p := i) (f := T.xs) (m := 1000) (by decide) (fun j hj => by have := hTo.B j hj; omega) 40 (Nat.le_refl _)
  have by9 := T.sK_b (p := i) (f := T.ys) (m := 1000) (by decide) (fun j hj => by have := hTo.B j hj; omega) 40 (Nat.le_refl _)
  rw [T.sK_40 hTo hi hl] at bx by9
  have has := Sh.at_sm X (T.smX i) (T.smY i)
  refine pe_go (pc := 1065) rfl (s_aload rfl) ?_
  refine pe_go (pc := 1067) rfl (s_iload rfl) ?_
  refine pe_go (pc := 1069) rfl (s_iload rfl) ?_
  refine pe_call rfl (s_invS rfl rfl rfl) (w_down (v := T.sE i T.xs) (n := T.smN i) ⟨by omega, by omega⟩ n1 (by omega)) ?_
  rw [St.smX_rw]
  refine pe_go (pc := 1074) rfl (s_iload rfl) ?_
  refine pe_go (pc := 1076) rfl (s_iload rfl) ?_
  refine pe_call rfl (s_invS rfl rfl rfl) (w_down (v := T.sE i T.ys) (n := T.smN i) ⟨by omega, by omega⟩ n1 (by omega)) ?_
  rw [St.smY_rw]
  refine pe_call rfl (s_invV rfl hP.2.1 rfl rfl) (w_at hSA (hR.In hTo).1 sx sy) ?_
  refine pe_go rfl (s_if_lt_f has ha9) ?_
  refine pe_go (pc := 1087) rfl s_goto ?_
  refine pe_go (pc := 1169) rfl (s_iinc (x := (i : Int)) (y := ((i + 1 : Nat) : Int)) rfl (by omega) (lv' := [(19, .int (iI ((i + 1 : Nat) : Int))), (22, .int (iI (T.sE i T.ys))), (21, .int (iI (T.sE i T.xs))), (20, .int (iI (T.smN i))), (18, .int (iI (c9 : Int))), (17, .ref t), (9, .int (iI 1)), (8, .ref c), (5, .int (iI (k : Int))), (4, .int (iI (n : Int))), (3, .ref ws), (2, .ref aw), (1, .ref b), (0, .ref s)]) rfl) ?_
  refine pe_go (pc := 1172) rfl s_goto ?_
  refine pe_few (lv := [(19, .int (iI ((i + 1 : Nat) : Int))), (18, .int (iI (c9 : Int))), (17, .ref t), (9, .int (iI 1)), (8, .ref c), (5, .int (iI (k : Int))), (4, .int (iI (n : Int))), (3, .ref ws), (2, .ref aw), (1, .ref b), (0, .ref s)]) rfl rfl (by intro q hq; simp only [List.mem_cons, List.not_mem_nil, or_false] at hq; rcases hq with rfl | rfl | rfl | rfl | rfl | rfl | rfl | rfl | rfl | rfl | rfl <;> rfl) ?_
  exact KK
theorem l_sm1065y {w : pW} {b k n ws aw s t : Nat} {Φ : Option Value → pW → Prop} {T : St} (ht : tb w t T) {O Q : Nat → Prop} {c : Nat} {X : Sh} {pa fa ha : Nat} {pf gf hf : Nat → Option Nat} {ff : Nat → Nat} (hP : shP w O Q c X pa fa ha pf gf hf ff) (hR : Rel T X) {i c9 : Nat} (hi : i < 40) (hl : T.loose i) (ha9 : X.at (T.smX i) (T.smY i) < 0) (KK : qE 158 (1110, [(23, .int (iI (T.hs i))), (22, .int (iI (T.sE i T.ys))), (21, .int (iI (T.sE i T.xs))), (20, .int (iI (T.smN i))), (19, .int (iI (i : Int))), (18, .int (iI (c9 : Int))), (17, .ref t), (9, .int (iI 1)), (8, .ref c), (5, .int (iI (k : Int))), (4, .int (iI (n : Int))), (3, .ref ws), (2, .ref aw), (1, .ref b), (0, .ref s)], [.null, .int (iI (i : Int)), .ref pa], w) Φ) : qE 158 (1065, [(22, .int (iI (T.sE i T.ys))), (21, .int (iI (T.sE i T.xs))), (20, .int (iI (T.smN i))), (19, .int (iI (i : Int))), (18, .int (iI (c9 : Int))), (17, .ref t), (9, .int (iI 1)), (8, .ref c), (5, .int (iI (k : Int))), (4, .int (iI (n : Int))), (3, .ref ws), (2, .ref aw), (1, .ref b), (0, .ref s)], [], w) Φ := by
  have hTo := tb_ok ht
  obtain ⟨fs, hto⟩ := tb_obj ht
  have hSA : shAt w O Q c X := ⟨pa, fa, ha, pf, gf, hf, ff, hP⟩
  obtain ⟨n1, n2⟩ := T.smN_b hTo hi hl
  have hsq := T.smX_sq hTo hi hl
  have sx : sm (T.smX i) := ⟨by have := hsq.1; omega, by have := hsq.2.1; omega⟩
  have sy : sm (T.smY i) := ⟨by have := hsq.2.2.1; omega, by have := hsq.2.2.2; omega⟩
  have bx := T.sK_b (p := i) (f := T.xs) (m := 1000) (by decide) (fun j hj => by have := hTo.B j hj; omega) 40 (Nat.le_refl _)
  have by9 := T.sK_b (p := i) (f := T.ys) (m := 1000) (by decide) (fun j hj => by have := hTo.B j hj; omega) 40 (Nat.le_refl _)
  rw [T.sK_40 hTo hi hl] at bx by9
  have has := Sh.at_sm X (T.smX i) (T.smY i)
  obtain ⟨ri, eri, -, hri⟩ := hP.2.2.2.2.1 i _ _ _ hi (hR.pt hi hl.1)
  refine pe_go (pc := 1065) rfl (s_aload rfl) ?_
  refine pe_go (pc := 1067) rfl (s_iload rfl) ?_
  refine pe_go (pc := 1069) rfl (s_iload rfl) ?_
  refine pe_call rfl (s_invS rfl rfl rfl) (w_down (v := T.sE i T.xs) (n := T.smN i) ⟨by omega, by omega⟩ n1 (by omega)) ?_
  rw [St.smX_rw]
  refine pe_go (pc := 1074) rfl (s_iload rfl) ?_
  refine pe_go (pc := 1076) rfl (s_iload rfl) ?_
  refine pe_call rfl (s_invS rfl rfl rfl) (w_down (v := T.sE i T.ys) (n := T.smN i) ⟨by omega, by omega⟩ n1 (by omega)) ?_
  rw [St.smY_rw]
  refine pe_call rfl (s_invV rfl hP.2.1 rfl rfl) (w_at hSA (hR.In hTo).1 sx sy) ?_
  refine pe_go rfl (s_if_lt_t has ha9) ?_
  refine pe_go (pc := 1090) rfl (s_aload rfl) ?_
  refine pe_go (pc := 1092) rfl (s_getf (v := .ref pa) hP.2.1 rfl) ?_
  refine pe_go (pc := 1095) rfl (s_iload rfl) ?_
  refine pe_go (pc := 1097) rfl (s_aald hP.2.2.1 (k := i) (by omega) (by omega) eri) ?_
  refine pe_go (pc := 1098) rfl (s_iconst (z := 2) rfl) ?_
  refine pe_go (pc := 1099) rfl (s_iald (n := 3) (f := row3 (T.xs i) (T.ys i) (T.hs i)) (v := T.hs i) hri (k := 2) (by omega) (by omega) (by decide) rfl) ?_
  refine pe_go (pc := 1100) rfl (s_istore (lv' := [(23, .int (iI (T.hs i))), (22, .int (iI (T.sE i T.ys))), (21, .int (iI (T.sE i T.xs))), (20, .int (iI (T.smN i))), (19, .int (iI (i : Int))), (18, .int (iI (c9 : Int))), (17, .ref t), (9, .int (iI 1)), (8, .ref c), (5, .int (iI (k : Int))), (4, .int (iI (n : Int))), (3, .ref ws), (2, .ref aw), (1, .ref b), (0, .ref s)]) rfl) ?_
  refine pe_go (pc := 1102) rfl (s_aload rfl) ?_
  refine pe_go (pc := 1104) rfl (s_getf (v := .ref pa) hP.2.1 rfl) ?_
  refine pe_go (pc := 1107) rfl (s_iload rfl) ?_
  refine pe_go (pc := 1109) rfl s_null ?_
  refine pe_few (lv := [(23, .int (iI (T.hs i))), (22, .int (iI (T.sE i T.ys))), (21, .int (iI (T.sE i T.xs))), (20, .int (iI (T.smN i))), (19, .int (iI (i : Int))), (18, .int (iI (c9 : Int))), (17, .ref t), (9, .int (iI 1)), (8, .ref c), (5, .int (iI (k : Int))), (4, .int (iI (n : Int))), (3, .ref ws), (2, .ref aw), (1, .ref b), (0, .ref s)]) rfl rfl (by intro q hq; simp only [List.mem_cons, List.not_mem_nil, or_false] at hq; rcases hq with rfl | rfl | rfl | rfl | rfl | rfl | rfl | rfl | rfl | rfl | rfl | rfl | rfl | rfl | rfl <;> rfl) ?_
  exact KK
theorem l_sm1111 {w : pW} {b k n ws aw s t : Nat} {Φ : Option Value → pW → Prop} {T : St} (ht : tb w t T)  {i c9 : Nat} (hi : i < 40) (hl : T.loose i) {O Q : Nat → Prop} {c : Nat} {X X1 : Sh} (eX : X1 = X.uP i none) (hu : shAt w O Q c X1) (hI : X1.In) (hOt : ∀ j : Nat, O j → ¬ inO t j) (hQt : ∀ j : Nat, inO t j → ¬ Q j) (hQn : Q w.length) (hat : T.atP (T.smX i) (T.smY i) = -1) (KK : ∀ (w' : pW) (R T1 : St), R.Ok → (R.xs = T.xs ∧ R.ys = T.ys ∧ R.th = bClr T.th i ∧ R.fx = T.fx) → T.rst R → R.laid T1 i (T.smX i) (T.smY i) → R.rst T1 → tb w' t T1 → shAt w' O Q c (X1.lays i (T.smX i) (T.smY i) (T.hs i)) → agr (fun j => O j ∨ inO t j) w w' → gro 1 3 w w' → qE 158 (972, [(19, .int (iI ((i + 1 : Nat) : Int))), (18, .int (iI ((c9 + 1 : Nat) : Int))), (17, .ref t), (9, .int (iI 1)), (8, .ref c), (5, .int (iI (k : Int))), (4, .int (iI (n : Int))), (3, .ref ws), (2, .ref aw), (1, .ref b), (0, .ref s)], [], w') Φ) : qE 158 (1111, [(23, .int (iI (T.hs i))), (22, .int (iI (T.sE i T.ys))), (21, .int (iI (T.sE i T.xs))), (20, .int (iI (T.smN i))), (19, .int (iI (i : Int))), (18, .int (iI (c9 : Int))), (17, .ref t), (9, .int (iI 1)), (8, .ref c), (5, .int (iI (k : Int))), (4, .int (iI (n : Int))), (3, .ref ws), (2, .ref aw), (1, .ref b), (0, .ref s)], [], w) Φ := by
  have hTo := tb_ok ht
  obtain ⟨fc, hco⟩ := sh_obj hu
  obtain ⟨n1, n2⟩ := T.smN_b hTo hi hl
  have hsq := T.smX_sq hTo hi hl
  have sx : sm (T.smX i) := ⟨by have := hsq.1; omega, by have := hsq.2.1; omega⟩
  have sy : sm (T.smY i) := ⟨by have := hsq.2.2.1; omega, by have := hsq.2.2.2; omega⟩
  have bx := T.sK_b (p := i) (f := T.xs) (m := 1000) (by decide) (fun j hj => by have := hTo.B j hj; omega) 40 (Nat.le_refl _)
  have by9 := T.sK_b (p := i) (f := T.ys) (m := 1000) (by decide) (fun j hj => by have := hTo.B j hj; omega) 40 (Nat.le_refl _)
  rw [T.sK_40 hTo hi hl] at bx by9
  have hh : -9999 ≤ T.hs i ∧ T.hs i ≤ 9999 := hTo.2.2.2.2.2.2.2.2 i hi
  refine pe_go (pc := 1111) rfl (s_aload rfl) ?_
  refine pe_go (pc := 1113) rfl (s_iload rfl) ?_
  refine pe_go (pc := 1115) rfl (s_iload rfl) ?_
  refine pe_go (pc := 1117) rfl (s_iload rfl) ?_
  refine pe_call rfl (s_invS rfl rfl rfl) (w_down (v := T.sE i T.xs) (n := T.smN i) ⟨by omega, by omega⟩ n1 (by omega)) ?_
  rw [St.smX_rw]
  refine pe_go (pc := 1122) rfl (s_iload rfl) ?_
  refine pe_go (pc := 1124) rfl (s_iload rfl) ?_
  refine pe_call rfl (s_invS rfl rfl rfl) (w_down (v := T.sE i T.ys) (n := T.smN i) ⟨by omega, by omega⟩ n1 (by omega)) ?_
  rw [St.smY_rw]
  refine pe_go (pc := 1129) rfl (s_iload rfl) ?_
  refine pe_callE rfl (s_invV rfl hco rfl rfl) (w_lays hi hsq hh hI hu hQn) ?_
  rintro _ w1 ⟨rfl, hs1, hI1, hA1, hg1⟩
  have ht2 := tb_agr ht hA1 (fun j z z2 => hOt j z z2)
  obtain ⟨fs2, hto2⟩ := tb_obj ht2
  obtain ⟨pa, fa, ha, pf, gf, hf, ff, hP2⟩ := id hs1
  have hco2 := hP2.2.1
  have hpa := hP2.2.2.1
  have hX9 := Sh.lays_at hI hsq hh (k := i)
  obtain ⟨ri, eri, -, hri⟩ := hP2.2.2.2.2.1 i _ _ _ hi hX9
  refine pe_go (pc := 1134) rfl (s_iinc (x := (c9 : Int)) (y := ((c9 + 1 : Nat) : Int)) rfl (by omega) (lv' := [(18, .int (iI ((c9 + 1 : Nat) : Int))), (23, .int (iI (T.hs i))), (22, .int (iI (T.sE i T.ys))), (21, .int (iI (T.sE i T.xs))), (20, .int (iI (T.smN i))), (19, .int (iI (i : Int))), (17, .ref t), (9, .int (iI 1)), (8, .ref c), (5, .int (iI (k : Int))), (4, .int (iI (n : Int))), (3, .ref ws), (2, .ref aw), (1, .ref b), (0, .ref s)]) rfl) ?_
  refine pe_go (pc := 1137) rfl (s_aload rfl) ?_
  refine pe_go (pc := 1139) rfl (s_iload rfl) ?_
  refine pe_go (pc := 1141) rfl (s_aload rfl) ?_
  refine pe_go (pc := 1143) rfl (s_getf (v := .ref pa) hco2 rfl) ?_
  refine pe_go (pc := 1146) rfl (s_iload rfl) ?_
  refine pe_go (pc := 1148) rfl (s_aald hpa (k := i) (by omega) (by omega) eri) ?_
  refine pe_go (pc := 1149) rfl (s_iconst (z := 0) rfl) ?_
  refine pe_go (pc := 1150) rfl (s_iald (n := 3) (f := row3 (T.smX i) (T.smY i) (T.hs i)) (v := T.smX i) hri (k := 0) (by omega) (by omega) (by decide) rfl) ?_
  refine pe_go (pc := 1151) rfl (s_aload rfl) ?_
  refine pe_go (pc := 1153) rfl (s_getf (v := .ref pa) hco2 rfl) ?_
  refine pe_go (pc := 1156) rfl (s_iload rfl) ?_
  refine pe_go (pc := 1158) rfl (s_aald hpa (k := i) (by omega) (by omega) eri) ?_
  refine pe_go (pc := 1159) rfl (s_iconst (z := 1) rfl) ?_
  refine pe_go (pc := 1160) rfl (s_iald (n := 3) (f := row3 (T.smX i) (T.smY i) (T.hs i)) (v := T.smY i) hri (k := 1) (by omega) (by omega) (by decide) rfl) ?_
  refine pe_callE rfl (s_invV rfl hto2 rfl rfl) (t_move ht2 hi sx sy hl hsq hat) ?_
  rintro _ w2 ⟨rfl, R2, T2, oR2, hx2, hr2, hla2, hrt2, ht2, hc2⟩
  refine pe_go rfl (s_ifne_true rfl) ?_
  refine pe_go (pc := 1169) rfl (s_iinc (x := (i : Int)) (y := ((i + 1 : Nat) : Int)) rfl (by omega) (lv' := [(19, .int (iI ((i + 1 : Nat) : Int))), (18, .int (iI ((c9 + 1 : Nat) : Int))), (23, .int (iI (T.hs i))), (22, .int (iI (T.sE i T.ys))), (21, .int (iI (T.sE i T.xs))), (20, .int (iI (T.smN i))), (17, .ref t), (9, .int (iI 1)), (8, .ref c), (5, .int (iI (k : Int))), (4, .int (iI (n : Int))), (3, .ref ws), (2, .ref aw), (1, .ref b), (0, .ref s)]) rfl) ?_
  refine pe_go (pc := 1172) rfl s_goto ?_
  refine pe_few (lv := [(19, .int (iI ((i + 1 : Nat) : Int))), (18, .int (iI ((c9 + 1 : Nat) : Int))), (17, .ref t), (9, .int (iI 1)), (8, .ref c), (5, .int (iI (k : Int))), (4, .int (iI (n : Int))), (3, .ref ws), (2, .ref aw), (1, .ref b), (0, .ref s)]) rfl rfl (by intro q hq; simp only [List.mem_cons, List.not_mem_nil, or_false] at hq; rcases hq with rfl | rfl | rfl | rfl | rfl | rfl | rfl | rfl | rfl | rfl | rfl <;> rfl) ?_
  exact KK _ R2 T2 oR2 hx2 hr2 hla2 hrt2 ht2 (sh_agr hs1 hc2.1 (fun j z => ⟨fun z2 => hOt j z2 z, hQt j z⟩)) (P_trans (agr_mono hA1 (fun _ z => Or.inl z)) (agr_mono hc2.1 (fun _ z => Or.inr z))) (gro_mono (gro_trans hg1 (g_chg hc2)) (by decide) (by decide))
theorem l_sm1175 {w : pW} {b k n ws aw s t : Nat} {Φ : Option Value → pW → Prop} {S : St} {L M : List St} {K : St} (hk : obk w b S L M K) {c c9 : Nat} (hc9 : c9 ≤ 40) (hcq : ∀ (S' : St) (c' : Nat), smR 36 4 S 0 S' c' → c' = c9) (KK : ∀ (w' : pW) (S' : St), smR 36 4 S 0 S' c9 → obk w' b S' (pshL S L) M K → chg b w w' → qE 158 (1559, [(9, .int (iI 1)), (8, .ref c), (5, .int (iI (k : Int))), (4, .int (iI (n : Int))), (3, .ref ws), (2, .ref aw), (1, .ref b), (0, .ref s)], [], w') Φ) : qE 158 (1175, [(18, .int (iI (c9 : Int))), (17, .ref t), (9, .int (iI 1)), (8, .ref c), (5, .int (iI (k : Int))), (4, .int (iI (n : Int))), (3, .ref ws), (2, .ref aw), (1, .ref b), (0, .ref s)], [], w) Φ := by
  obtain ⟨fb, hbo⟩ := obk_obj hk
  refine pe_go (pc := 1175) rfl (s_aload_n rfl) ?_
  refine pe_callE rfl (s_invV rfl hbo rfl rfl) (k_smR hk) ?_
  rintro _ w1 ⟨S1, c1, hr1, rfl, ho1, hc1⟩
  have ec := hcq _ _ hr1
  subst ec
  refine pe_go (pc := 1179) rfl (s_iload rfl) ?_
  refine pe_go rfl (s_icmp_eq_t ⟨by omega, by omega⟩ ⟨by omega, by omega⟩ rfl) ?_
  refine pe_go (pc := 1186) rfl s_goto ?_
  refine pe_few (lv := [(9, .int (iI 1)), (8, .ref c), (5, .int (iI (k : Int))), (4, .int (iI (n : Int))), (3, .ref ws), (2, .ref aw), (1, .ref b), (0, .ref s)]) rfl rfl (by intro q hq; simp only [List.mem_cons, List.not_mem_nil, or_false] at hq; rcases hq with rfl | rfl | rfl | rfl | rfl | rfl | rfl | rfl <;> rfl) ?_
  exact KK _ _ hr1 ho1 hc1
