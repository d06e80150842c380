/-! THE LAW: one turn: moved, fixed, freed. Rows laid by program (wip/p63/wk.py, hw.py, lawcase.py, mk98zp.py). -/
theorem St.sightP_sym {S : St} {a b : Nat} (h : S.sightP a b 40) : S.sightP b a 40 := by
  intro q hq ⟨z1, z2, z3⟩
  refine h q hq ⟨z1, ?_, ?_⟩
  · rw [St.sd3_swap] at z2
    omega
  · unfold St.dot at z3 ⊢
    rw [Int.mul_comm (S.xs a - S.xs q), Int.mul_comm (S.ys a - S.ys q)]
    exact z3
theorem Rel.atm {S : St} {X : Sh} (h : Rel S X) {x y : Int} (ha : X.at x y < 0) : S.atP x y = -1 := by
  rw [h.atP_at]
  rcases X.at_ok x y with ⟨z, -⟩ | ⟨q, -, z, -⟩ <;> omega
theorem Rel.atn {S : St} {X : Sh} (h : Rel S X) {x y : Int} (ha : ¬ X.at x y < 0) : S.atP x y ≠ -1 := by
  rw [h.atP_at]
  omega
theorem l_case3b {w : pW} {b n0 c : Nat} {X : Sh} (hu : shAt w (fun i => n0 ≤ i) (fun i => ¬ inO b i) c X) (hI : X.In) (hlw : n0 ≤ w.length) (hbn : b + 57 ≤ n0) {p9 : Nat} (hp : p9 < 40) {k n ws aw s : Nat} {x y px py grid what h9 inn q : Int} (hin : inSq px py) (hh : -9999 ≤ h9 ∧ h9 ≤ 9999) {Φ : Option Value → pW → Prop} (KK : ∀ w' : pW, shAt w' (fun i => n0 ≤ i) (fun i => ¬ inO b i) c (X.lays p9 px py h9) → agr (fun i => n0 ≤ i) w w' → gro 1 3 w w' → qE 158 (1559, [(9, .int (iI 1)), (8, .ref c), (5, .int (iI (k : Int))), (4, .int (iI (n : Int))), (3, .ref ws), (2, .ref aw), (1, .ref b), (0, .ref s)], [], w') Φ) : qE 158 (468, [(17, .int (iI h9)), (16, .int (iI inn)), (15, .int (iI what)), (14, .int (iI q)), (13, .int (iI (p9 : Int))), (12, .int (iI py)), (11, .int (iI px)), (10, .int (iI grid)), (9, .int (iI 1)), (8, .ref c), (7, .int (iI y)), (6, .int (iI x)), (5, .int (iI (k : Int))), (4, .int (iI (n : Int))), (3, .ref ws), (2, .ref aw), (1, .ref b), (0, .ref s)], [], w) Φ := by
  obtain ⟨fc, hco⟩ := sh_obj hu
  refine pe_go (pc := 468) rfl (s_aload rfl) ?_
  refine pe_go (pc := 470) rfl (s_iload rfl) ?_
  refine pe_go (pc := 472) rfl (s_iload rfl) ?_
  refine pe_go (pc := 474) rfl (s_iload rfl) ?_
  refine pe_go (pc := 476) rfl (s_iload rfl) ?_
  refine pe_callE rfl (s_invV rfl hco rfl rfl) (w_lays hp hin hh hI hu (new_ok hbn hlw)) ?_
  rintro _ w1 ⟨rfl, hs1, hI1, hA1, hg1⟩
  refine pe_go (pc := 481) rfl s_goto ?_
  refine pe_few (lv := [(9, .int (iI 1)), (8, .ref c), (5, .int (iI (k : Int))), (4, .int (iI (n : Int))), (3, .ref ws), (2, .ref aw), (1, .ref b), (0, .ref s)]) rfl rfl (by intro q hq; simp only [List.mem_cons, List.not_mem_nil, or_false] at hq; rcases hq with rfl | rfl | rfl | rfl | rfl | rfl | rfl | rfl <;> rfl) ?_
  exact KK _ hs1 hA1 hg1
theorem l_case3y1 {w : pW} {b n0 : Nat} (hbn : b + 57 ≤ n0) {S : St} {L M : List St} {K : St} (hk : obk w b S L M K) {c : Nat} {X : Sh} (hu : shAt w (fun i => n0 ≤ i) (fun i => ¬ inO b i) c X) (hR : Rel S X) (hlw : n0 ≤ w.length) {k n ws aw s : Nat} {x y px py grid what : Int} {Φ : Option Value → pW → Prop} {q : Int} (sx : sm px) (sy : sm py) {p9 : Nat} (hp : p9 < 40) (hl : S.loose p9) (hin : inSq px py) (KKd : ∀ (w' : pW) (S' : St) (X' : Sh), obk w' b S' (pshL S L) M K → Rel S' X' → shAt w' (fun i => n0 ≤ i) (fun i => ¬ inO b i) c X' → agr (fun i => inO b i ∨ n0 ≤ i) w w' → gro 2000 (2 * pwsz (nP 0) + 12000) w w' → qE 158 (1559, [(9, .int (iI 1)), (8, .ref c), (5, .int (iI (k : Int))), (4, .int (iI (n : Int))), (3, .ref ws), (2, .ref aw), (1, .ref b), (0, .ref s)], [], w') Φ) (KKn : ∀ w' : pW, obk w' b S L M K → agr (fun i => inO b i ∨ n0 ≤ i) w w' → gro 2000 (2 * pwsz (nP 0) + 12000) w w' → qE 158 (1559, [(9, .int (iI 0)), (8, .ref c), (5, .int (iI (k : Int))), (4, .int (iI (n : Int))), (3, .ref ws), (2, .ref aw), (1, .ref b), (0, .ref s)], [], w') Φ) : qE 158 (391, [(16, .int (iI 1)), (15, .int (iI what)), (14, .int (iI q)), (13, .int (iI (p9 : Int))), (12, .int (iI py)), (11, .int (iI px)), (10, .int (iI grid)), (9, .int (iI 1)), (8, .ref c), (7, .int (iI y)), (6, .int (iI x)), (5, .int (iI (k : Int))), (4, .int (iI (n : Int))), (3, .ref ws), (2, .ref aw), (1, .ref b), (0, .ref s)], [], w) Φ := by
  have hko := obk_ok hk
  have hIn := hR.In hko
  have hX9 := hIn.1
  obtain ⟨fb, hbo⟩ := obk_obj hk
  obtain ⟨fc, hco⟩ := sh_obj hu
  have hfs := Sh.free_sm X
  have has := Sh.at_sm X px py
  refine pe_go (pc := 391) rfl (s_aload rfl) ?_
  refine pe_go (pc := 393) rfl (s_iload rfl) ?_
  refine pe_call rfl (s_invV rfl hco rfl rfl) (goes_y hu hR hko hp hl) ?_
  refine pe_go rfl (s_if_eq_f ⟨by decide, by decide⟩ (by decide)) ?_
  refine pe_go (pc := 401) rfl (s_iload rfl) ?_
  refine pe_go rfl (s_if_eq_f ⟨by decide, by decide⟩ (by decide)) ?_
  refine pe_go (pc := 406) rfl (s_aload rfl) ?_
  refine pe_go (pc := 408) rfl (s_iload rfl) ?_
  refine pe_go (pc := 410) rfl (s_iload rfl) ?_
  refine pe_call rfl (s_invV rfl hco rfl rfl) (w_at hu hX9 sx sy) ?_
  by_cases c1 : 0 ≤ (X.at px py)
  · skip
    refine pe_go rfl (s_if_ge_t has c1) ?_
    refine pe_go (pc := 422) rfl (s_iconst (z := 0) rfl) ?_
    refine pe_go (pc := 423) rfl (s_istore (lv' := [(9, .int (iI 0)), (16, .int (iI 1)), (15, .int (iI what)), (14, .int (iI q)), (13, .int (iI (p9 : Int))), (12, .int (iI py)), (11, .int (iI px)), (10, .int (iI grid)), (8, .ref c), (7, .int (iI y)), (6, .int (iI x)), (5, .int (iI (k : Int))), (4, .int (iI (n : Int))), (3, .ref ws), (2, .ref aw), (1, .ref b), (0, .ref s)]) rfl) ?_
    refine pe_go (pc := 425) rfl (s_aload_n rfl) ?_
    refine pe_go (pc := 426) rfl (s_iload rfl) ?_
    refine pe_go (pc := 428) rfl (s_iload rfl) ?_
    refine pe_go (pc := 430) rfl (s_iload rfl) ?_
    refine pe_callE rfl (s_invV rfl hbo rfl rfl) (k_moveN hk (Or.inr ⟨p9, hp, rfl⟩) sx sy (fun p8 e z => hR.atn (by omega) z.2.2)) ?_
    rintro _ w2 ⟨rfl, ho2, hc2⟩
    rw [show bI false = iI 0 from rfl]
    refine pe_go (pc := 435) rfl (s_iload rfl) ?_
    refine pe_go rfl (s_icmp_eq_t ⟨by decide, by decide⟩ ⟨by decide, by decide⟩ (by decide)) ?_
    refine pe_go (pc := 442) rfl (s_iload rfl) ?_
    refine pe_go rfl (s_if_eq_t ⟨by decide, by decide⟩ (by decide)) ?_
    refine pe_few (lv := [(9, .int (iI 0)), (8, .ref c), (5, .int (iI (k : Int))), (4, .int (iI (n : Int))), (3, .ref ws), (2, .ref aw), (1, .ref b), (0, .ref s)]) rfl rfl (by intro q hq; simp only [List.mem_cons, List.not_mem_nil, or_false] at hq; rcases hq with rfl | rfl | rfl | rfl | rfl | rfl | rfl | rfl <;> rfl) ?_
    exact KKn _ ho2 (P_chg hc2) (G_of (g_chg hc2) (by decide) (by decide))
  · skip
    refine pe_go rfl (s_if_ge_f has c1) ?_
    refine pe_go (pc := 418) rfl (s_iconst (z := 1) rfl) ?_
    refine pe_go (pc := 419) rfl s_goto ?_
    refine pe_go (pc := 423) rfl (s_istore (lv' := [(9, .int (iI 1)), (16, .int (iI 1)), (15, .int (iI what)), (14, .int (iI q)), (13, .int (iI (p9 : Int))), (12, .int (iI py)), (11, .int (iI px)), (10, .int (iI grid)), (8, .ref c), (7, .int (iI y)), (6, .int (iI x)), (5, .int (iI (k : Int))), (4, .int (iI (n : Int))), (3, .ref ws), (2, .ref aw), (1, .ref b), (0, .ref s)]) rfl) ?_
    refine pe_go (pc := 425) rfl (s_aload_n rfl) ?_
    refine pe_go (pc := 426) rfl (s_iload rfl) ?_
    refine pe_go (pc := 428) rfl (s_iload rfl) ?_
    refine pe_go (pc := 430) rfl (s_iload rfl) ?_
    refine pe_callE rfl (s_invV rfl hbo rfl rfl) (k_moveY hk hp sx sy hl hin (hR.atm (by omega))) ?_
    rintro _ w3 ⟨rfl, R3, T3, oR3, hx3, hr3, hla3, hrt3, ho3, hc3⟩
    rw [show bI true = iI 1 from rfl]
    obtain ⟨pa, fa, ha, pf, gf, hf, ff, hP⟩ := sh_chg hbn hu hc3
    obtain ⟨r9, e9, -, hr9⟩ := hP.2.2.2.2.1 p9 _ _ _ hp (hR.pt hp hl.1)
    refine pe_go (pc := 435) rfl (s_iload rfl) ?_
    refine pe_go rfl (s_icmp_eq_t ⟨by decide, by decide⟩ ⟨by decide, by decide⟩ (by decide)) ?_
    refine pe_go (pc := 442) rfl (s_iload rfl) ?_
    refine pe_go rfl (s_if_eq_f ⟨by decide, by decide⟩ (by decide)) ?_
    refine pe_go (pc := 447) rfl (s_aload rfl) ?_
    refine pe_go (pc := 449) rfl (s_getf (v := .ref pa) hP.2.1 rfl) ?_
    refine pe_go (pc := 452) rfl (s_iload rfl) ?_
    refine pe_go (pc := 454) rfl (s_aald hP.2.2.1 (k := p9) (by omega) (by omega) e9) ?_
    refine pe_go (pc := 455) rfl (s_iconst (z := 2) rfl) ?_
    refine pe_go (pc := 456) rfl (s_iald (n := 3) (f := row3 (S.xs p9) (S.ys p9) (S.hs p9)) (v := S.hs p9) hr9 (k := 2) (by omega) (by omega) (by decide) rfl) ?_
    refine pe_go (pc := 457) rfl (s_istore (lv' := [(17, .int (iI (S.hs p9))), (9, .int (iI 1)), (16, .int (iI 1)), (15, .int (iI what)), (14, .int (iI q)), (13, .int (iI (p9 : Int))), (12, .int (iI py)), (11, .int (iI px)), (10, .int (iI grid)), (8, .ref c), (7, .int (iI y)), (6, .int (iI x)), (5, .int (iI (k : Int))), (4, .int (iI (n : Int))), (3, .ref ws), (2, .ref aw), (1, .ref b), (0, .ref s)]) rfl) ?_
    refine pe_go (pc := 459) rfl (s_aload rfl) ?_
    refine pe_go (pc := 461) rfl (s_getf (v := .ref pa) hP.2.1 rfl) ?_
    refine pe_go (pc := 464) rfl (s_iload rfl) ?_
    refine pe_go (pc := 466) rfl s_null ?_
    refine pe_go (pc := 467) rfl (s_aastN (kd := 0) (k := p9) hP.2.2.1 rfl ⟨hp, by decide, by decide⟩ rfl) ?_
    have hA9 : agr (fun i => n0 ≤ i) w3 (w3.set pa (.inl (3, 40, rfs (va_up pf p9 none)))) := agr_set hP.1.2.1
    have hG9 := gro_set (c' := .inl (3, 40, rfs (va_up pf p9 none))) hP.2.2.1 rfl
    have hR9 := Rel.drop hR hp hx3.1 hx3.2.1 hx3.2.2.1 hx3.2.2.2 hr3
    have hP9 := sh_no hP p9
    generalize w3.set pa (.inl (3, 40, rfs (va_up pf p9 none))) = w9 at hA9 hG9 hP9 ⊢
    refine pe_few (lv := [(17, .int (iI (S.hs p9))), (16, .int (iI 1)), (15, .int (iI what)), (14, .int (iI q)), (13, .int (iI (p9 : Int))), (12, .int (iI py)), (11, .int (iI px)), (10, .int (iI grid)), (9, .int (iI 1)), (8, .ref c), (7, .int (iI y)), (6, .int (iI x)), (5, .int (iI (k : Int))), (4, .int (iI (n : Int))), (3, .ref ws), (2, .ref aw), (1, .ref b), (0, .ref s)]) rfl rfl (by intro q hq; simp only [List.mem_cons, List.not_mem_nil, or_false] at hq; rcases hq with rfl | rfl | rfl | rfl | rfl | rfl | rfl | rfl | rfl | rfl | rfl | rfl | rfl | rfl | rfl | rfl | rfl | rfl <;> rfl) ?_
    have hnp : ¬ R3.has p9 := fun z => by unfold St.has at z; rw [hx3.2.2.1, bt_clr (by omega), decide_eq_true rfl] at z; simp at z
    refine l_case3b ⟨_, _, _, _, _, _, _, hP9⟩ (hR9.In oR3) (by have := hA9.1; have := hc3.2.1; omega) hbn hp hin (hko.2.2.2.2.2.2.2.2 p9 hp) (fun w8 hs8 hA8 hG8 => ?_)
    exact KKd _ _ _ (obk_own hbn (obk_own hbn ho3 hA9) hA8) (Rel.lays hR9 oR3.M hp hnp hla3 (by rw [hrt3.1, hr3.1]) (fun j _ => by rw [hrt3.1]) hrt3.2.2.2.1 hrt3.2.2.2.2) hs8 (P_trans (P_chg hc3) (P_own (P_trans hA9 hA8))) (G_of (gro_trans (g_chg hc3) (gro_trans hG9 hG8)) (by decide) (by decide))
theorem l_case3y0 {w : pW} {b n0 : Nat} (hbn : b + 57 ≤ n0) {S : St} {L M : List St} {K : St} (hk : obk w b S L M K) {c : Nat} {X : Sh} (hu : shAt w (fun i => n0 ≤ i) (fun i => ¬ inO b i) c X) (hR : Rel S X) (hlw : n0 ≤ w.length) {k n ws aw s : Nat} {x y px py grid what : Int} {Φ : Option Value → pW → Prop} {q : Int} (sx : sm px) (sy : sm py) {p9 : Nat} (hp : p9 < 40) (hl : S.loose p9) (hin : ¬ inSq px py)  (KKn : ∀ w' : pW, obk w' b S L M K → agr (fun i => inO b i ∨ n0 ≤ i) w w' → gro 2000 (2 * pwsz (nP 0) + 12000) w w' → qE 158 (1559, [(9, .int (iI 0)), (8, .ref c), (5, .int (iI (k : Int))), (4, .int (iI (n : Int))), (3, .ref ws), (2, .ref aw), (1, .ref b), (0, .ref s)], [], w') Φ) : qE 158 (391, [(16, .int (iI 0)), (15, .int (iI what)), (14, .int (iI q)), (13, .int (iI (p9 : Int))), (12, .int (iI py)), (11, .int (iI px)), (10, .int (iI grid)), (9, .int (iI 1)), (8, .ref c), (7, .int (iI y)), (6, .int (iI x)), (5, .int (iI (k : Int))), (4, .int (iI (n : Int))), (3, .ref ws), (2, .ref aw), (1, .ref b), (0, .ref s)], [], w) Φ := by
  have hko := obk_ok hk
  have hIn := hR.In hko
  have hX9 := hIn.1
  obtain ⟨fb, hbo⟩ := obk_obj hk
  obtain ⟨fc, hco⟩ := sh_obj hu
  have hfs := Sh.free_sm X
  have has := Sh.at_sm X px py
  refine pe_go (pc := 391) rfl (s_aload rfl) ?_
  refine pe_go (pc := 393) rfl (s_iload rfl) ?_
  refine pe_call rfl (s_invV rfl hco rfl rfl) (goes_y hu hR hko hp hl) ?_
  refine pe_go rfl (s_if_eq_f ⟨by decide, by decide⟩ (by decide)) ?_
  refine pe_go (pc := 401) rfl (s_iload rfl) ?_
  refine pe_go rfl (s_if_eq_t ⟨by decide, by decide⟩ (by decide)) ?_
  refine pe_go (pc := 422) rfl (s_iconst (z := 0) rfl) ?_
  refine pe_go (pc := 423) rfl (s_istore (lv' := [(9, .int (iI 0)), (16, .int (iI 0)), (15, .int (iI what)), (14, .int (iI q)), (13, .int (iI (p9 : Int))), (12, .int (iI py)), (11, .int (iI px)), (10, .int (iI grid)), (8, .ref c), (7, .int (iI y)), (6, .int (iI x)), (5, .int (iI (k : Int))), (4, .int (iI (n : Int))), (3, .ref ws), (2, .ref aw), (1, .ref b), (0, .ref s)]) rfl) ?_
  refine pe_go (pc := 425) rfl (s_aload_n rfl) ?_
  refine pe_go (pc := 426) rfl (s_iload rfl) ?_
  refine pe_go (pc := 428) rfl (s_iload rfl) ?_
  refine pe_go (pc := 430) rfl (s_iload rfl) ?_
  refine pe_callE rfl (s_invV rfl hbo rfl rfl) (k_moveN hk (Or.inr ⟨p9, hp, rfl⟩) sx sy (fun p8 e z => hin z.2.1)) ?_
  rintro _ w1 ⟨rfl, ho1, hc1⟩
  rw [show bI false = iI 0 from rfl]
  refine pe_go (pc := 435) rfl (s_iload rfl) ?_
  refine pe_go rfl (s_icmp_eq_t ⟨by decide, by decide⟩ ⟨by decide, by decide⟩ (by decide)) ?_
  refine pe_go (pc := 442) rfl (s_iload rfl) ?_
  refine pe_go rfl (s_if_eq_t ⟨by decide, by decide⟩ (by decide)) ?_
  refine pe_few (lv := [(9, .int (iI 0)), (8, .ref c), (5, .int (iI (k : Int))), (4, .int (iI (n : Int))), (3, .ref ws), (2, .ref aw), (1, .ref b), (0, .ref s)]) rfl rfl (by intro q hq; simp only [List.mem_cons, List.not_mem_nil, or_false] at hq; rcases hq with rfl | rfl | rfl | rfl | rfl | rfl | rfl | rfl <;> rfl) ?_
  exact KKn _ ho1 (P_chg hc1) (G_of (g_chg hc1) (by decide) (by decide))
theorem l_case3n {w : pW} {b n0 : Nat} (hbn : b + 57 ≤ n0) {S : St} {L M : List St} {K : St} (hk : obk w b S L M K) {c : Nat} {X : Sh} (hu : shAt w (fun i => n0 ≤ i) (fun i => ¬ inO b i) c X) (hR : Rel S X) (hlw : n0 ≤ w.length) {k n ws aw s : Nat} {x y px py grid what : Int} {Φ : Option Value → pW → Prop} {q : Int} (sx : sm px) (sy : sm py) {p inn : Int} (hp : ptN p) (hl : ∀ p9 : Nat, p = (p9 : Int) → ¬ S.loose p9)  (KKn : ∀ w' : pW, obk w' b S L M K → agr (fun i => inO b i ∨ n0 ≤ i) w w' → gro 2000 (2 * pwsz (nP 0) + 12000) w w' → qE 158 (1559, [(9, .int (iI 0)), (8, .ref c), (5, .int (iI (k : Int))), (4, .int (iI (n : Int))), (3, .ref ws), (2, .ref aw), (1, .ref b), (0, .ref s)], [], w') Φ) : qE 158 (391, [(16, .int (iI inn)), (15, .int (iI what)), (14, .int (iI q)), (13, .int (iI p)), (12, .int (iI py)), (11, .int (iI px)), (10, .int (iI grid)), (9, .int (iI 1)), (8, .ref c), (7, .int (iI y)), (6, .int (iI x)), (5, .int (iI (k : Int))), (4, .int (iI (n : Int))), (3, .ref ws), (2, .ref aw), (1, .ref b), (0, .ref s)], [], w) Φ := by
  have hko := obk_ok hk
  have hIn := hR.In hko
  have hX9 := hIn.1
  obtain ⟨fb, hbo⟩ := obk_obj hk
  obtain ⟨fc, hco⟩ := sh_obj hu
  have hfs := Sh.free_sm X
  have has := Sh.at_sm X px py
  refine pe_go (pc := 391) rfl (s_aload rfl) ?_
  refine pe_go (pc := 393) rfl (s_iload rfl) ?_
  refine pe_call rfl (s_invV rfl hco rfl rfl) (goes_n hu hR hko hp hl) ?_
  refine pe_go rfl (s_if_eq_t ⟨by decide, by decide⟩ (by decide)) ?_
  refine pe_go (pc := 422) rfl (s_iconst (z := 0) rfl) ?_
  refine pe_go (pc := 423) rfl (s_istore (lv' := [(9, .int (iI 0)), (16, .int (iI inn)), (15, .int (iI what)), (14, .int (iI q)), (13, .int (iI p)), (12, .int (iI py)), (11, .int (iI px)), (10, .int (iI grid)), (8, .ref c), (7, .int (iI y)), (6, .int (iI x)), (5, .int (iI (k : Int))), (4, .int (iI (n : Int))), (3, .ref ws), (2, .ref aw), (1, .ref b), (0, .ref s)]) rfl) ?_
  refine pe_go (pc := 425) rfl (s_aload_n rfl) ?_
  refine pe_go (pc := 426) rfl (s_iload rfl) ?_
  refine pe_go (pc := 428) rfl (s_iload rfl) ?_
  refine pe_go (pc := 430) rfl (s_iload rfl) ?_
  refine pe_callE rfl (s_invV rfl hbo rfl rfl) (k_moveN hk hp sx sy (fun p9 e z => hl p9 e z.1)) ?_
  rintro _ w1 ⟨rfl, ho1, hc1⟩
  rw [show bI false = iI 0 from rfl]
  refine pe_go (pc := 435) rfl (s_iload rfl) ?_
  refine pe_go rfl (s_icmp_eq_t ⟨by decide, by decide⟩ ⟨by decide, by decide⟩ (by decide)) ?_
  refine pe_go (pc := 442) rfl (s_iload rfl) ?_
  refine pe_go rfl (s_if_eq_t ⟨by decide, by decide⟩ (by decide)) ?_
  refine pe_few (lv := [(9, .int (iI 0)), (8, .ref c), (5, .int (iI (k : Int))), (4, .int (iI (n : Int))), (3, .ref ws), (2, .ref aw), (1, .ref b), (0, .ref s)]) rfl rfl (by intro q hq; simp only [List.mem_cons, List.not_mem_nil, or_false] at hq; rcases hq with rfl | rfl | rfl | rfl | rfl | rfl | rfl | rfl <;> rfl) ?_
  exact KKn _ ho1 (P_chg hc1) (G_of (g_chg hc1) (by decide) (by decide))
